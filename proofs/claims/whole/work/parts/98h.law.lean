/-! ===== the law's loop ===== -/
/-- what holds before each call: n calls have been made -/
def lI (L : Nat) (xs : Nat → Int32) (h : AH) (A : QA) (n : Nat) : Prop := cI h A ∧ xE h ∧ mI h A ∧ mE h A.1 ∧ allwf A ∧ (am_kd h 0 = 9 ∧ am_ln h 0 = L ∧ am_I h 0 = xs) ∧ h.1.length ≤ 34 + 4 * n ∧ sm_sz h ≤ 4000 + L + 29 * n
section law
variable {L : Nat} {xs : Nat → Int32} {h h1 h2 : AH} {A A' : QA} {n i : Nat}
theorem lI.jc (J : lI L xs h A n) : cI h A := J.1
theorem lI.jx (J : lI L xs h A n) : xE h := J.2.1
theorem lI.jm (J : lI L xs h A n) : mI h A := J.2.2.1
theorem lI.je (J : lI L xs h A n) : mE h A.1 := J.2.2.2.1
theorem lI.W (J : lI L xs h A n) : allwf A := J.2.2.2.2.1
theorem lI.w (J : lI L xs h A n) : q_wf A.1 := J.W.1
theorem lI.r (J : lI L xs h A n) : am_kd h 0 = 9 ∧ am_ln h 0 = L ∧ am_I h 0 = xs := J.2.2.2.2.2.1
theorem lI.g (J : lI L xs h A n) : 34 ≤ h.1.length := J.1.1.g
theorem lI.z (J : lI L xs h A n) : z_list A.1.1 (q_g A.1) (q_N A.1, q_E A.1) := by
  obtain ⟨_, -, -, -, -, z⟩ := m_lay J.jm J.je J.w
  exact z.2.2.2
theorem lI.row (J : lI L xs h A n) (f : cF h h1 cM) : am_kd h1 0 = 9 ∧ am_ln h1 0 = L ∧ am_I h1 0 = am_I h 0 := by
  have g := J.g
  have k := f.kd (show 0 < h.1.length by omega)
  exact ⟨k.1.trans J.r.1, k.2.trans J.r.2.1, (f.2 0 (by omega) (fun z => by unfold cM at z; omega)).1⟩
theorem lI.N (J : lI L xs h A n) (f : cF h h1 cN) : xE h1 ∧ cF h h1 cM := ⟨J.jx.same (f.sm J.jc.1), f.wk cN.M⟩
theorem lI.R (J : lI L xs h A n) : cF h h cM := am_fr.c (P := cM) am_fr.rf (fun _ z => z)
theorem cF.sz {P : Nat → Prop} (f : cF h h1 P) : h1.1.length ≤ h.1.length + 4 ∧ sm_sz h1 ≤ sm_sz h + 29 := by
  obtain ⟨⟨l, e, d⟩, -⟩ := f
  unfold sm_sz
  rw [e]
  rcases d with rfl | rfl
  · simp
  · simp
theorem lI.step (J : lI L xs h A n) (f : cF h h1 cM) (I1 : cI h1 A') (C1 : xE h1) (f2 : mfr h1 h2) (I2 : mI h2 A') (X2 : mE h2 A'.1) (W : allwf A') : lI L xs h2 A' (n + 1) := by
  have r := J.row f
  have s := f.sz
  have s1 := J.2.2.2.2.2.2.1
  have s2 := J.2.2.2.2.2.2.2
  refine ⟨I1.m f2, C1.m f2, I2, X2, W, ⟨(f2.kd 0).trans r.1, (f2.ln 0).trans r.2.1, (f2.2.2.1 0 (by omega)).trans (r.2.2.trans J.r.2.2)⟩, by rw [f2.1]; omega, ?_⟩
  have : sm_sz h2 = sm_sz h1 := by unfold sm_sz; rw [f2.1]
  rw [this]
  omega
theorem l_ix {M : AH} {y : Int32} {j : Nat} (k : am_kd M 0 = 9) (l : am_ln M 0 = L) (ey : y = nI j) (hj : j < L) (hL : L ≤ 2560) : (am_kd M 0 = 5 ∨ am_kd M 0 = 9) ∧ ¬ (y < 0 ∨ am_ln M 0 ≤ Int32.toNatClampNeg y) := by
  rw [ey, x_neg (by omega), x_cl (by omega), l]
  exact ⟨Or.inr k, fun z => z.elim id (fun z => by omega)⟩
theorem l_ix' {M : AH} {y : Int32} {j : Nat} (k : am_kd M 0 = 9) (ey : y = nI j) (hj : j < L) (hL : L ≤ 2560) : (am_kd M 0 = 5 ∨ am_kd M 0 = 9) ∧ ¬ (y < 0 ∨ L ≤ Int32.toNatClampNeg y) := by
  rw [ey, x_neg (by omega), x_cl (by omega)]
  exact ⟨Or.inr k, fun z => z.elim id (fun z => by omega)⟩
theorem l_ne {X : Int32} {c j : Nat} (op : X = nI c) (hc : c < 32) (hj : j < 32) (ne : c ≠ j) : ¬ X = nI j := fun z => by
  have := op.symm.trans z
  rw [x_eq (by omega) (by omega)] at this
  exact ne this
theorem l_end (hL : L ≤ 2560) (hi : i ≤ 2560) : (Int32.ofNat L - 5 < nI i) ↔ L < i + 5 := by
  rw [Int32.lt_iff_toInt_lt, nI_toInt (by omega), Int32.toInt_sub, show (Int32.ofNat L).toInt = L from nI_toInt (by omega), show (5 : Int32).toInt = 5 from rfl, Int.bmod_eq_of_le (by omega) (by omega)]
  omega
theorem l_a {k : Nat} {x : Int32} (e : x = nI k) : nI i + x = nI (i + k) := by rw [e, nI_add]
theorem l_c0 (J : lI L xs h A n) (hi : i + 5 ≤ L) (hL : L ≤ 2560) (op : am_I h 0 (Int32.toNatClampNeg (nI i)) &&& 31 = nI 0) : ∃ h2 A', am_ev 165 18 [.ref 0, .ref 1, .ref 20, .int (nI i)] [] h = am_ev 165 18 [.ref 0, .ref 1, .ref 20, .int (nI i + 5)] [] h2 ∧ lI L xs h2 A' (n + 1) := by
  obtain ⟨h1, e1, I1, g1⟩ := c_begin J.jc ((am_I h 0 (Int32.toNatClampNeg (nI i + (1 : Int32)))))
  obtain ⟨C1, f1⟩ := J.N g1
  have sm := f1.mSm J.g
  have r1 := J.row f1
  obtain ⟨h2, e2, I2, f2, X2⟩ := m_begin (J.jm.sm sm) (J.je.sm sm) ((am_I h 0 (Int32.toNatClampNeg (nI i + (1 : Int32)))))
  rw [am_b165_18, if_pos (show 5 ≤ am_kd h 0 ∧ am_kd h 0 ≤ 9 by rw [J.r.1]; omega), J.r.2.1, if_neg (show ¬ Int32.ofNat L - 5 < nI i by rw [l_end hL (by omega)]; omega)]
  rw [if_pos (show (am_kd h 0 = 5 ∨ am_kd h 0 = 9) ∧ ¬ (nI i < 0 ∨ L ≤ Int32.toNatClampNeg (nI i)) from l_ix' J.r.1 rfl (by omega) hL), if_pos op, if_pos (show (am_kd h 0 = 5 ∨ am_kd h 0 = 9) ∧ ¬ (nI i + 1 < 0 ∨ L ≤ Int32.toNatClampNeg (nI i + 1)) from l_ix' J.r.1 (l_a (k := 1) rfl) (by omega) hL), if_pos J.jc.1.k1, e1, x_bI, if_pos (show (am_kd h1 0 = 5 ∨ am_kd h1 0 = 9) ∧ ¬ (nI i + 1 < 0 ∨ am_ln h1 0 ≤ Int32.toNatClampNeg (nI i + 1)) from l_ix r1.1 r1.2.1 (l_a (k := 1) rfl) (by omega) hL), if_pos (show am_kd h1 20 = 4 from (J.jm.sm sm).1.1), r1.2.2, e2, x_bI, if_pos rfl]
  exact ⟨h2, _, rfl, J.step f1 I1 C1 f2 I2 X2 (allwf_begin J.W ((am_I h 0 (Int32.toNatClampNeg (nI i + (1 : Int32))))))⟩
theorem l_c1 (J : lI L xs h A n) (hi : i + 5 ≤ L) (hL : L ≤ 2560) (op : am_I h 0 (Int32.toNatClampNeg (nI i)) &&& 31 = nI 1) : ∃ h2 A', am_ev 165 18 [.ref 0, .ref 1, .ref 20, .int (nI i)] [] h = am_ev 165 18 [.ref 0, .ref 1, .ref 20, .int (nI i + 5)] [] h2 ∧ lI L xs h2 A' (n + 1) := by
  obtain ⟨h1, e1, I1, g1⟩ := c_points J.jc ((am_I h 0 (Int32.toNatClampNeg (nI i + (1 : Int32))))) ((am_I h 0 (Int32.toNatClampNeg (nI i + (2 : Int32))))) ((am_I h 0 (Int32.toNatClampNeg (nI i + (3 : Int32))))) ((am_I h 0 (Int32.toNatClampNeg (nI i + (4 : Int32)))))
  obtain ⟨C1, f1⟩ := J.N g1
  have sm := f1.mSm J.g
  have r1 := J.row f1
  obtain ⟨h2, e2, I2, f2, X2⟩ := m_points (J.jm.sm sm) (J.je.sm sm) ((am_I h 0 (Int32.toNatClampNeg (nI i + (1 : Int32))))) ((am_I h 0 (Int32.toNatClampNeg (nI i + (2 : Int32))))) ((am_I h 0 (Int32.toNatClampNeg (nI i + (3 : Int32))))) ((am_I h 0 (Int32.toNatClampNeg (nI i + (4 : Int32)))))
  rw [am_b165_18, if_pos (show 5 ≤ am_kd h 0 ∧ am_kd h 0 ≤ 9 by rw [J.r.1]; omega), J.r.2.1, if_neg (show ¬ Int32.ofNat L - 5 < nI i by rw [l_end hL (by omega)]; omega)]
  rw [if_pos (show (am_kd h 0 = 5 ∨ am_kd h 0 = 9) ∧ ¬ (nI i < 0 ∨ L ≤ Int32.toNatClampNeg (nI i)) from l_ix' J.r.1 rfl (by omega) hL), if_neg (l_ne op (by omega) (by omega) (show 1 ≠ 0 by omega)), if_pos op, if_pos (show (am_kd h 0 = 5 ∨ am_kd h 0 = 9) ∧ ¬ (nI i + 1 < 0 ∨ L ≤ Int32.toNatClampNeg (nI i + 1)) from l_ix' J.r.1 (l_a (k := 1) rfl) (by omega) hL), if_pos (show (am_kd h 0 = 5 ∨ am_kd h 0 = 9) ∧ ¬ (nI i + 2 < 0 ∨ L ≤ Int32.toNatClampNeg (nI i + 2)) from l_ix' J.r.1 (l_a (k := 2) rfl) (by omega) hL), if_pos (show (am_kd h 0 = 5 ∨ am_kd h 0 = 9) ∧ ¬ (nI i + 3 < 0 ∨ L ≤ Int32.toNatClampNeg (nI i + 3)) from l_ix' J.r.1 (l_a (k := 3) rfl) (by omega) hL), if_pos (show (am_kd h 0 = 5 ∨ am_kd h 0 = 9) ∧ ¬ (nI i + 4 < 0 ∨ L ≤ Int32.toNatClampNeg (nI i + 4)) from l_ix' J.r.1 (l_a (k := 4) rfl) (by omega) hL), if_pos J.jc.1.k1, e1, x_bI, if_pos (show (am_kd h1 0 = 5 ∨ am_kd h1 0 = 9) ∧ ¬ (nI i + 1 < 0 ∨ am_ln h1 0 ≤ Int32.toNatClampNeg (nI i + 1)) from l_ix r1.1 r1.2.1 (l_a (k := 1) rfl) (by omega) hL), if_pos (show (am_kd h1 0 = 5 ∨ am_kd h1 0 = 9) ∧ ¬ (nI i + 2 < 0 ∨ am_ln h1 0 ≤ Int32.toNatClampNeg (nI i + 2)) from l_ix r1.1 r1.2.1 (l_a (k := 2) rfl) (by omega) hL), if_pos (show (am_kd h1 0 = 5 ∨ am_kd h1 0 = 9) ∧ ¬ (nI i + 3 < 0 ∨ am_ln h1 0 ≤ Int32.toNatClampNeg (nI i + 3)) from l_ix r1.1 r1.2.1 (l_a (k := 3) rfl) (by omega) hL), if_pos (show (am_kd h1 0 = 5 ∨ am_kd h1 0 = 9) ∧ ¬ (nI i + 4 < 0 ∨ am_ln h1 0 ≤ Int32.toNatClampNeg (nI i + 4)) from l_ix r1.1 r1.2.1 (l_a (k := 4) rfl) (by omega) hL), if_pos (show am_kd h1 20 = 4 from (J.jm.sm sm).1.1), r1.2.2, e2, x_bI, if_pos rfl]
  exact ⟨h2, _, rfl, J.step f1 I1 C1 f2 I2 X2 (allwf_points J.W ((am_I h 0 (Int32.toNatClampNeg (nI i + (1 : Int32))))) ((am_I h 0 (Int32.toNatClampNeg (nI i + (2 : Int32))))) ((am_I h 0 (Int32.toNatClampNeg (nI i + (3 : Int32))))) ((am_I h 0 (Int32.toNatClampNeg (nI i + (4 : Int32))))))⟩
theorem l_c2 (J : lI L xs h A n) (hi : i + 5 ≤ L) (hL : L ≤ 2560) (op : am_I h 0 (Int32.toNatClampNeg (nI i)) &&& 31 = nI 2) : ∃ h2 A', am_ev 165 18 [.ref 0, .ref 1, .ref 20, .int (nI i)] [] h = am_ev 165 18 [.ref 0, .ref 1, .ref 20, .int (nI i + 5)] [] h2 ∧ lI L xs h2 A' (n + 1) := by
  obtain ⟨h1, e1, I1, g1⟩ := c_weigh J.jc J.w ((am_I h 0 (Int32.toNatClampNeg (nI i + (1 : Int32))))) ((am_I h 0 (Int32.toNatClampNeg (nI i + (2 : Int32))))) ((am_I h 0 (Int32.toNatClampNeg (nI i + (3 : Int32)))))
  obtain ⟨C1, f1⟩ := J.N g1
  have sm := f1.mSm J.g
  have r1 := J.row f1
  obtain ⟨h2, e2, I2, f2, X2⟩ := m_weigh (J.jm.sm sm) (J.je.sm sm) ((am_I h 0 (Int32.toNatClampNeg (nI i + (1 : Int32))))) ((am_I h 0 (Int32.toNatClampNeg (nI i + (2 : Int32))))) ((am_I h 0 (Int32.toNatClampNeg (nI i + (3 : Int32)))))
  rw [am_b165_18, if_pos (show 5 ≤ am_kd h 0 ∧ am_kd h 0 ≤ 9 by rw [J.r.1]; omega), J.r.2.1, if_neg (show ¬ Int32.ofNat L - 5 < nI i by rw [l_end hL (by omega)]; omega)]
  rw [if_pos (show (am_kd h 0 = 5 ∨ am_kd h 0 = 9) ∧ ¬ (nI i < 0 ∨ L ≤ Int32.toNatClampNeg (nI i)) from l_ix' J.r.1 rfl (by omega) hL), if_neg (l_ne op (by omega) (by omega) (show 2 ≠ 0 by omega)), if_neg (l_ne op (by omega) (by omega) (show 2 ≠ 1 by omega)), if_pos op, if_pos (show (am_kd h 0 = 5 ∨ am_kd h 0 = 9) ∧ ¬ (nI i + 1 < 0 ∨ L ≤ Int32.toNatClampNeg (nI i + 1)) from l_ix' J.r.1 (l_a (k := 1) rfl) (by omega) hL), if_pos (show (am_kd h 0 = 5 ∨ am_kd h 0 = 9) ∧ ¬ (nI i + 2 < 0 ∨ L ≤ Int32.toNatClampNeg (nI i + 2)) from l_ix' J.r.1 (l_a (k := 2) rfl) (by omega) hL), if_pos (show (am_kd h 0 = 5 ∨ am_kd h 0 = 9) ∧ ¬ (nI i + 3 < 0 ∨ L ≤ Int32.toNatClampNeg (nI i + 3)) from l_ix' J.r.1 (l_a (k := 3) rfl) (by omega) hL), if_pos J.jc.1.k1, e1, x_bI, if_pos (show (am_kd h1 0 = 5 ∨ am_kd h1 0 = 9) ∧ ¬ (nI i + 1 < 0 ∨ am_ln h1 0 ≤ Int32.toNatClampNeg (nI i + 1)) from l_ix r1.1 r1.2.1 (l_a (k := 1) rfl) (by omega) hL), if_pos (show (am_kd h1 0 = 5 ∨ am_kd h1 0 = 9) ∧ ¬ (nI i + 2 < 0 ∨ am_ln h1 0 ≤ Int32.toNatClampNeg (nI i + 2)) from l_ix r1.1 r1.2.1 (l_a (k := 2) rfl) (by omega) hL), if_pos (show (am_kd h1 0 = 5 ∨ am_kd h1 0 = 9) ∧ ¬ (nI i + 3 < 0 ∨ am_ln h1 0 ≤ Int32.toNatClampNeg (nI i + 3)) from l_ix r1.1 r1.2.1 (l_a (k := 3) rfl) (by omega) hL), if_pos (show am_kd h1 20 = 4 from (J.jm.sm sm).1.1), r1.2.2, e2, x_bI, if_pos rfl]
  exact ⟨h2, _, rfl, J.step f1 I1 C1 f2 I2 X2 (allwf_weigh J.W ((am_I h 0 (Int32.toNatClampNeg (nI i + (1 : Int32))))) ((am_I h 0 (Int32.toNatClampNeg (nI i + (2 : Int32))))) ((am_I h 0 (Int32.toNatClampNeg (nI i + (3 : Int32))))))⟩
theorem l_c3 (J : lI L xs h A n) (hi : i + 5 ≤ L) (hL : L ≤ 2560) (op : am_I h 0 (Int32.toNatClampNeg (nI i)) &&& 31 = nI 3) : ∃ h2 A', am_ev 165 18 [.ref 0, .ref 1, .ref 20, .int (nI i)] [] h = am_ev 165 18 [.ref 0, .ref 1, .ref 20, .int (nI i + 5)] [] h2 ∧ lI L xs h2 A' (n + 1) := by
  obtain ⟨h1, e1, I1, C1, f1⟩ := c_take J.jc J.jx J.w ((am_I h 0 (Int32.toNatClampNeg (nI i + (1 : Int32)))))
  have sm := f1.mSm J.g
  have r1 := J.row f1
  obtain ⟨h2, e2, I2, f2, X2⟩ := m_take (J.jm.sm sm) (J.je.sm sm) J.w ((am_I h 0 (Int32.toNatClampNeg (nI i + (1 : Int32)))))
  rw [am_b165_18, if_pos (show 5 ≤ am_kd h 0 ∧ am_kd h 0 ≤ 9 by rw [J.r.1]; omega), J.r.2.1, if_neg (show ¬ Int32.ofNat L - 5 < nI i by rw [l_end hL (by omega)]; omega)]
  rw [if_pos (show (am_kd h 0 = 5 ∨ am_kd h 0 = 9) ∧ ¬ (nI i < 0 ∨ L ≤ Int32.toNatClampNeg (nI i)) from l_ix' J.r.1 rfl (by omega) hL), if_neg (l_ne op (by omega) (by omega) (show 3 ≠ 0 by omega)), if_neg (l_ne op (by omega) (by omega) (show 3 ≠ 1 by omega)), if_neg (l_ne op (by omega) (by omega) (show 3 ≠ 2 by omega)), if_pos op, if_pos (show (am_kd h 0 = 5 ∨ am_kd h 0 = 9) ∧ ¬ (nI i + 1 < 0 ∨ L ≤ Int32.toNatClampNeg (nI i + 1)) from l_ix' J.r.1 (l_a (k := 1) rfl) (by omega) hL), if_pos J.jc.1.k1, e1, x_bI, if_pos (show (am_kd h1 0 = 5 ∨ am_kd h1 0 = 9) ∧ ¬ (nI i + 1 < 0 ∨ am_ln h1 0 ≤ Int32.toNatClampNeg (nI i + 1)) from l_ix r1.1 r1.2.1 (l_a (k := 1) rfl) (by omega) hL), if_pos (show am_kd h1 20 = 4 from (J.jm.sm sm).1.1), r1.2.2, e2, x_bI, if_pos rfl]
  exact ⟨h2, _, rfl, J.step f1 I1 C1 f2 I2 X2 (allwf_take J.W J.z ((am_I h 0 (Int32.toNatClampNeg (nI i + (1 : Int32))))))⟩
theorem l_c4 (J : lI L xs h A n) (hi : i + 5 ≤ L) (hL : L ≤ 2560) (op : am_I h 0 (Int32.toNatClampNeg (nI i)) &&& 31 = nI 4) : ∃ h2 A', am_ev 165 18 [.ref 0, .ref 1, .ref 20, .int (nI i)] [] h = am_ev 165 18 [.ref 0, .ref 1, .ref 20, .int (nI i + 5)] [] h2 ∧ lI L xs h2 A' (n + 1) := by
  obtain ⟨h1, e1, I1, C1, f1⟩ := c_mix J.jc J.jx J.w ((am_I h 0 (Int32.toNatClampNeg (nI i + (1 : Int32))))) ((am_I h 0 (Int32.toNatClampNeg (nI i + (2 : Int32))))) ((am_I h 0 (Int32.toNatClampNeg (nI i + (3 : Int32)))))
  have sm := f1.mSm J.g
  have r1 := J.row f1
  obtain ⟨h2, e2, I2, f2, X2⟩ := m_mix (J.jm.sm sm) (J.je.sm sm) J.w ((am_I h 0 (Int32.toNatClampNeg (nI i + (1 : Int32))))) ((am_I h 0 (Int32.toNatClampNeg (nI i + (2 : Int32))))) ((am_I h 0 (Int32.toNatClampNeg (nI i + (3 : Int32)))))
  rw [am_b165_18, if_pos (show 5 ≤ am_kd h 0 ∧ am_kd h 0 ≤ 9 by rw [J.r.1]; omega), J.r.2.1, if_neg (show ¬ Int32.ofNat L - 5 < nI i by rw [l_end hL (by omega)]; omega)]
  rw [if_pos (show (am_kd h 0 = 5 ∨ am_kd h 0 = 9) ∧ ¬ (nI i < 0 ∨ L ≤ Int32.toNatClampNeg (nI i)) from l_ix' J.r.1 rfl (by omega) hL), if_neg (l_ne op (by omega) (by omega) (show 4 ≠ 0 by omega)), if_neg (l_ne op (by omega) (by omega) (show 4 ≠ 1 by omega)), if_neg (l_ne op (by omega) (by omega) (show 4 ≠ 2 by omega)), if_neg (l_ne op (by omega) (by omega) (show 4 ≠ 3 by omega)), if_pos op, if_pos (show (am_kd h 0 = 5 ∨ am_kd h 0 = 9) ∧ ¬ (nI i + 1 < 0 ∨ L ≤ Int32.toNatClampNeg (nI i + 1)) from l_ix' J.r.1 (l_a (k := 1) rfl) (by omega) hL), if_pos (show (am_kd h 0 = 5 ∨ am_kd h 0 = 9) ∧ ¬ (nI i + 2 < 0 ∨ L ≤ Int32.toNatClampNeg (nI i + 2)) from l_ix' J.r.1 (l_a (k := 2) rfl) (by omega) hL), if_pos (show (am_kd h 0 = 5 ∨ am_kd h 0 = 9) ∧ ¬ (nI i + 3 < 0 ∨ L ≤ Int32.toNatClampNeg (nI i + 3)) from l_ix' J.r.1 (l_a (k := 3) rfl) (by omega) hL), if_pos J.jc.1.k1, e1, x_bI, if_pos (show (am_kd h1 0 = 5 ∨ am_kd h1 0 = 9) ∧ ¬ (nI i + 1 < 0 ∨ am_ln h1 0 ≤ Int32.toNatClampNeg (nI i + 1)) from l_ix r1.1 r1.2.1 (l_a (k := 1) rfl) (by omega) hL), if_pos (show (am_kd h1 0 = 5 ∨ am_kd h1 0 = 9) ∧ ¬ (nI i + 2 < 0 ∨ am_ln h1 0 ≤ Int32.toNatClampNeg (nI i + 2)) from l_ix r1.1 r1.2.1 (l_a (k := 2) rfl) (by omega) hL), if_pos (show (am_kd h1 0 = 5 ∨ am_kd h1 0 = 9) ∧ ¬ (nI i + 3 < 0 ∨ am_ln h1 0 ≤ Int32.toNatClampNeg (nI i + 3)) from l_ix r1.1 r1.2.1 (l_a (k := 3) rfl) (by omega) hL), if_pos (show am_kd h1 20 = 4 from (J.jm.sm sm).1.1), r1.2.2, e2, x_bI, if_pos rfl]
  exact ⟨h2, _, rfl, J.step f1 I1 C1 f2 I2 X2 (allwf_mix J.W J.z ((am_I h 0 (Int32.toNatClampNeg (nI i + (1 : Int32))))) ((am_I h 0 (Int32.toNatClampNeg (nI i + (2 : Int32))))) ((am_I h 0 (Int32.toNatClampNeg (nI i + (3 : Int32))))))⟩
theorem l_c5 (J : lI L xs h A n) (hi : i + 5 ≤ L) (hL : L ≤ 2560) (op : am_I h 0 (Int32.toNatClampNeg (nI i)) &&& 31 = nI 5) : ∃ h2 A', am_ev 165 18 [.ref 0, .ref 1, .ref 20, .int (nI i)] [] h = am_ev 165 18 [.ref 0, .ref 1, .ref 20, .int (nI i + 5)] [] h2 ∧ lI L xs h2 A' (n + 1) := by
  obtain ⟨h1, e1, I1, g1⟩ := c_roll J.jc J.w ((am_I h 0 (Int32.toNatClampNeg (nI i + (1 : Int32)))))
  obtain ⟨C1, f1⟩ := J.N g1
  have sm := f1.mSm J.g
  have r1 := J.row f1
  obtain ⟨h2, e2, I2, f2, X2⟩ := m_roll (J.jm.sm sm) (J.je.sm sm) J.w ((am_I h 0 (Int32.toNatClampNeg (nI i + (1 : Int32)))))
  rw [am_b165_18, if_pos (show 5 ≤ am_kd h 0 ∧ am_kd h 0 ≤ 9 by rw [J.r.1]; omega), J.r.2.1, if_neg (show ¬ Int32.ofNat L - 5 < nI i by rw [l_end hL (by omega)]; omega)]
  rw [if_pos (show (am_kd h 0 = 5 ∨ am_kd h 0 = 9) ∧ ¬ (nI i < 0 ∨ L ≤ Int32.toNatClampNeg (nI i)) from l_ix' J.r.1 rfl (by omega) hL), if_neg (l_ne op (by omega) (by omega) (show 5 ≠ 0 by omega)), if_neg (l_ne op (by omega) (by omega) (show 5 ≠ 1 by omega)), if_neg (l_ne op (by omega) (by omega) (show 5 ≠ 2 by omega)), if_neg (l_ne op (by omega) (by omega) (show 5 ≠ 3 by omega)), if_neg (l_ne op (by omega) (by omega) (show 5 ≠ 4 by omega)), if_pos op, if_pos (show (am_kd h 0 = 5 ∨ am_kd h 0 = 9) ∧ ¬ (nI i + 1 < 0 ∨ L ≤ Int32.toNatClampNeg (nI i + 1)) from l_ix' J.r.1 (l_a (k := 1) rfl) (by omega) hL), if_pos J.jc.1.k1, e1, x_bI, if_pos (show (am_kd h1 0 = 5 ∨ am_kd h1 0 = 9) ∧ ¬ (nI i + 1 < 0 ∨ am_ln h1 0 ≤ Int32.toNatClampNeg (nI i + 1)) from l_ix r1.1 r1.2.1 (l_a (k := 1) rfl) (by omega) hL), if_pos (show am_kd h1 20 = 4 from (J.jm.sm sm).1.1), r1.2.2, e2, x_bI, if_pos rfl]
  exact ⟨h2, _, rfl, J.step f1 I1 C1 f2 I2 X2 (allwf_roll J.W ((am_I h 0 (Int32.toNatClampNeg (nI i + (1 : Int32))))))⟩
theorem l_c6 (J : lI L xs h A n) (hi : i + 5 ≤ L) (hL : L ≤ 2560) (op : am_I h 0 (Int32.toNatClampNeg (nI i)) &&& 31 = nI 6) : ∃ h2 A', am_ev 165 18 [.ref 0, .ref 1, .ref 20, .int (nI i)] [] h = am_ev 165 18 [.ref 0, .ref 1, .ref 20, .int (nI i + 5)] [] h2 ∧ lI L xs h2 A' (n + 1) := by
  obtain ⟨h1, e1, I1, g1⟩ := c_forget J.jc J.w ((am_I h 0 (Int32.toNatClampNeg (nI i + (1 : Int32)))))
  obtain ⟨C1, f1⟩ := J.N g1
  have sm := f1.mSm J.g
  have r1 := J.row f1
  obtain ⟨h2, e2, I2, f2, X2⟩ := m_forget (J.jm.sm sm) (J.je.sm sm) ((am_I h 0 (Int32.toNatClampNeg (nI i + (1 : Int32)))))
  rw [am_b165_18, if_pos (show 5 ≤ am_kd h 0 ∧ am_kd h 0 ≤ 9 by rw [J.r.1]; omega), J.r.2.1, if_neg (show ¬ Int32.ofNat L - 5 < nI i by rw [l_end hL (by omega)]; omega)]
  rw [if_pos (show (am_kd h 0 = 5 ∨ am_kd h 0 = 9) ∧ ¬ (nI i < 0 ∨ L ≤ Int32.toNatClampNeg (nI i)) from l_ix' J.r.1 rfl (by omega) hL), if_neg (l_ne op (by omega) (by omega) (show 6 ≠ 0 by omega)), if_neg (l_ne op (by omega) (by omega) (show 6 ≠ 1 by omega)), if_neg (l_ne op (by omega) (by omega) (show 6 ≠ 2 by omega)), if_neg (l_ne op (by omega) (by omega) (show 6 ≠ 3 by omega)), if_neg (l_ne op (by omega) (by omega) (show 6 ≠ 4 by omega)), if_neg (l_ne op (by omega) (by omega) (show 6 ≠ 5 by omega)), if_pos op, if_pos (show (am_kd h 0 = 5 ∨ am_kd h 0 = 9) ∧ ¬ (nI i + 1 < 0 ∨ L ≤ Int32.toNatClampNeg (nI i + 1)) from l_ix' J.r.1 (l_a (k := 1) rfl) (by omega) hL), if_pos J.jc.1.k1, e1, x_bI, if_pos (show (am_kd h1 0 = 5 ∨ am_kd h1 0 = 9) ∧ ¬ (nI i + 1 < 0 ∨ am_ln h1 0 ≤ Int32.toNatClampNeg (nI i + 1)) from l_ix r1.1 r1.2.1 (l_a (k := 1) rfl) (by omega) hL), if_pos (show am_kd h1 20 = 4 from (J.jm.sm sm).1.1), r1.2.2, e2, x_bI, if_pos rfl]
  exact ⟨h2, _, rfl, J.step f1 I1 C1 f2 I2 X2 (allwf_forget J.W ((am_I h 0 (Int32.toNatClampNeg (nI i + (1 : Int32))))))⟩
theorem l_c7 (J : lI L xs h A n) (hi : i + 5 ≤ L) (hL : L ≤ 2560) (op : am_I h 0 (Int32.toNatClampNeg (nI i)) &&& 31 = nI 7) : ∃ h2 A', am_ev 165 18 [.ref 0, .ref 1, .ref 20, .int (nI i)] [] h = am_ev 165 18 [.ref 0, .ref 1, .ref 20, .int (nI i + 5)] [] h2 ∧ lI L xs h2 A' (n + 1) := by
  obtain ⟨h1, e1, I1, g1⟩ := c_read J.jc 
  obtain ⟨C1, f1⟩ := J.N g1
  have sm := f1.mSm J.g
  have r1 := J.row f1
  obtain ⟨h2, e2, I2, f2, X2⟩ := m_read (J.jm.sm sm) (J.je.sm sm) 
  rw [am_b165_18, if_pos (show 5 ≤ am_kd h 0 ∧ am_kd h 0 ≤ 9 by rw [J.r.1]; omega), J.r.2.1, if_neg (show ¬ Int32.ofNat L - 5 < nI i by rw [l_end hL (by omega)]; omega)]
  rw [if_pos (show (am_kd h 0 = 5 ∨ am_kd h 0 = 9) ∧ ¬ (nI i < 0 ∨ L ≤ Int32.toNatClampNeg (nI i)) from l_ix' J.r.1 rfl (by omega) hL), if_neg (l_ne op (by omega) (by omega) (show 7 ≠ 0 by omega)), if_neg (l_ne op (by omega) (by omega) (show 7 ≠ 1 by omega)), if_neg (l_ne op (by omega) (by omega) (show 7 ≠ 2 by omega)), if_neg (l_ne op (by omega) (by omega) (show 7 ≠ 3 by omega)), if_neg (l_ne op (by omega) (by omega) (show 7 ≠ 4 by omega)), if_neg (l_ne op (by omega) (by omega) (show 7 ≠ 5 by omega)), if_neg (l_ne op (by omega) (by omega) (show 7 ≠ 6 by omega)), if_pos op, if_pos J.jc.1.k1, e1, x_bI, if_pos (show am_kd h1 20 = 4 from (J.jm.sm sm).1.1), e2, x_bI, if_pos rfl]
  exact ⟨h2, _, rfl, J.step f1 I1 C1 f2 I2 X2 (allwf_read J.W J.jc.2.2.2.2.2.2.1)⟩
theorem l_c8 (J : lI L xs h A n) (hi : i + 5 ≤ L) (hL : L ≤ 2560) (op : am_I h 0 (Int32.toNatClampNeg (nI i)) &&& 31 = nI 8) : ∃ h2 A', am_ev 165 18 [.ref 0, .ref 1, .ref 20, .int (nI i)] [] h = am_ev 165 18 [.ref 0, .ref 1, .ref 20, .int (nI i + 5)] [] h2 ∧ lI L xs h2 A' (n + 1) := by
  obtain ⟨h1, e1, I1, C1, f1⟩ := c_cell J.jc J.jx J.w ((am_I h 0 (Int32.toNatClampNeg (nI i + (1 : Int32))))) ((am_I h 0 (Int32.toNatClampNeg (nI i + (2 : Int32))))) ((am_I h 0 (Int32.toNatClampNeg (nI i + (3 : Int32)))))
  have sm := f1.mSm J.g
  have r1 := J.row f1
  obtain ⟨h2, e2, I2, f2, X2⟩ := m_cell (J.jm.sm sm) (J.je.sm sm) J.w ((am_I h 0 (Int32.toNatClampNeg (nI i + (1 : Int32))))) ((am_I h 0 (Int32.toNatClampNeg (nI i + (2 : Int32))))) ((am_I h 0 (Int32.toNatClampNeg (nI i + (3 : Int32)))))
  rw [am_b165_18, if_pos (show 5 ≤ am_kd h 0 ∧ am_kd h 0 ≤ 9 by rw [J.r.1]; omega), J.r.2.1, if_neg (show ¬ Int32.ofNat L - 5 < nI i by rw [l_end hL (by omega)]; omega)]
  rw [if_pos (show (am_kd h 0 = 5 ∨ am_kd h 0 = 9) ∧ ¬ (nI i < 0 ∨ L ≤ Int32.toNatClampNeg (nI i)) from l_ix' J.r.1 rfl (by omega) hL), if_neg (l_ne op (by omega) (by omega) (show 8 ≠ 0 by omega)), if_neg (l_ne op (by omega) (by omega) (show 8 ≠ 1 by omega)), if_neg (l_ne op (by omega) (by omega) (show 8 ≠ 2 by omega)), if_neg (l_ne op (by omega) (by omega) (show 8 ≠ 3 by omega)), if_neg (l_ne op (by omega) (by omega) (show 8 ≠ 4 by omega)), if_neg (l_ne op (by omega) (by omega) (show 8 ≠ 5 by omega)), if_neg (l_ne op (by omega) (by omega) (show 8 ≠ 6 by omega)), if_neg (l_ne op (by omega) (by omega) (show 8 ≠ 7 by omega)), if_pos op, if_pos (show (am_kd h 0 = 5 ∨ am_kd h 0 = 9) ∧ ¬ (nI i + 1 < 0 ∨ L ≤ Int32.toNatClampNeg (nI i + 1)) from l_ix' J.r.1 (l_a (k := 1) rfl) (by omega) hL), if_pos (show (am_kd h 0 = 5 ∨ am_kd h 0 = 9) ∧ ¬ (nI i + 2 < 0 ∨ L ≤ Int32.toNatClampNeg (nI i + 2)) from l_ix' J.r.1 (l_a (k := 2) rfl) (by omega) hL), if_pos (show (am_kd h 0 = 5 ∨ am_kd h 0 = 9) ∧ ¬ (nI i + 3 < 0 ∨ L ≤ Int32.toNatClampNeg (nI i + 3)) from l_ix' J.r.1 (l_a (k := 3) rfl) (by omega) hL), if_pos J.jc.1.k1, e1, x_bI, if_pos (show (am_kd h1 0 = 5 ∨ am_kd h1 0 = 9) ∧ ¬ (nI i + 1 < 0 ∨ am_ln h1 0 ≤ Int32.toNatClampNeg (nI i + 1)) from l_ix r1.1 r1.2.1 (l_a (k := 1) rfl) (by omega) hL), if_pos (show (am_kd h1 0 = 5 ∨ am_kd h1 0 = 9) ∧ ¬ (nI i + 2 < 0 ∨ am_ln h1 0 ≤ Int32.toNatClampNeg (nI i + 2)) from l_ix r1.1 r1.2.1 (l_a (k := 2) rfl) (by omega) hL), if_pos (show (am_kd h1 0 = 5 ∨ am_kd h1 0 = 9) ∧ ¬ (nI i + 3 < 0 ∨ am_ln h1 0 ≤ Int32.toNatClampNeg (nI i + 3)) from l_ix r1.1 r1.2.1 (l_a (k := 3) rfl) (by omega) hL), if_pos (show am_kd h1 20 = 4 from (J.jm.sm sm).1.1), r1.2.2, e2, x_bI, if_pos rfl]
  exact ⟨h2, _, rfl, J.step f1 I1 C1 f2 I2 X2 J.W⟩
theorem l_c9 (J : lI L xs h A n) (hi : i + 5 ≤ L) (hL : L ≤ 2560) (op : am_I h 0 (Int32.toNatClampNeg (nI i)) &&& 31 = nI 9) : ∃ h2 A', am_ev 165 18 [.ref 0, .ref 1, .ref 20, .int (nI i)] [] h = am_ev 165 18 [.ref 0, .ref 1, .ref 20, .int (nI i + 5)] [] h2 ∧ lI L xs h2 A' (n + 1) := by
  have e1 := c_inequality J.jc ((am_I h 0 (Int32.toNatClampNeg (nI i + (1 : Int32))))) ((am_I h 0 (Int32.toNatClampNeg (nI i + (2 : Int32)))))
  have I1 := J.jc
  have C1 := J.jx
  have f1 := J.R
  have sm := f1.mSm J.g
  have r1 := J.row f1
  obtain ⟨h2, e2, I2, f2, X2⟩ := m_inequality (J.jm.sm sm) (J.je.sm sm) ((am_I h 0 (Int32.toNatClampNeg (nI i + (1 : Int32))))) ((am_I h 0 (Int32.toNatClampNeg (nI i + (2 : Int32)))))
  rw [am_b165_18, if_pos (show 5 ≤ am_kd h 0 ∧ am_kd h 0 ≤ 9 by rw [J.r.1]; omega), J.r.2.1, if_neg (show ¬ Int32.ofNat L - 5 < nI i by rw [l_end hL (by omega)]; omega)]
  rw [if_pos (show (am_kd h 0 = 5 ∨ am_kd h 0 = 9) ∧ ¬ (nI i < 0 ∨ L ≤ Int32.toNatClampNeg (nI i)) from l_ix' J.r.1 rfl (by omega) hL), if_neg (l_ne op (by omega) (by omega) (show 9 ≠ 0 by omega)), if_neg (l_ne op (by omega) (by omega) (show 9 ≠ 1 by omega)), if_neg (l_ne op (by omega) (by omega) (show 9 ≠ 2 by omega)), if_neg (l_ne op (by omega) (by omega) (show 9 ≠ 3 by omega)), if_neg (l_ne op (by omega) (by omega) (show 9 ≠ 4 by omega)), if_neg (l_ne op (by omega) (by omega) (show 9 ≠ 5 by omega)), if_neg (l_ne op (by omega) (by omega) (show 9 ≠ 6 by omega)), if_neg (l_ne op (by omega) (by omega) (show 9 ≠ 7 by omega)), if_neg (l_ne op (by omega) (by omega) (show 9 ≠ 8 by omega)), if_pos op, if_pos (show (am_kd h 0 = 5 ∨ am_kd h 0 = 9) ∧ ¬ (nI i + 1 < 0 ∨ L ≤ Int32.toNatClampNeg (nI i + 1)) from l_ix' J.r.1 (l_a (k := 1) rfl) (by omega) hL), if_pos (show (am_kd h 0 = 5 ∨ am_kd h 0 = 9) ∧ ¬ (nI i + 2 < 0 ∨ L ≤ Int32.toNatClampNeg (nI i + 2)) from l_ix' J.r.1 (l_a (k := 2) rfl) (by omega) hL), if_pos J.jc.1.k1, e1, x_bI, if_pos (show (am_kd h 0 = 5 ∨ am_kd h 0 = 9) ∧ ¬ (nI i + 1 < 0 ∨ am_ln h 0 ≤ Int32.toNatClampNeg (nI i + 1)) from l_ix J.r.1 J.r.2.1 (l_a (k := 1) rfl) (by omega) hL), if_pos (show (am_kd h 0 = 5 ∨ am_kd h 0 = 9) ∧ ¬ (nI i + 2 < 0 ∨ am_ln h 0 ≤ Int32.toNatClampNeg (nI i + 2)) from l_ix J.r.1 J.r.2.1 (l_a (k := 2) rfl) (by omega) hL), if_pos (show am_kd h 20 = 4 from J.jm.1.1), e2, x_bI, if_pos rfl]
  exact ⟨h2, _, rfl, J.step f1 I1 C1 f2 I2 X2 J.W⟩
theorem l_c10 (J : lI L xs h A n) (hi : i + 5 ≤ L) (hL : L ≤ 2560) (op : am_I h 0 (Int32.toNatClampNeg (nI i)) &&& 31 = nI 10) : ∃ h2 A', am_ev 165 18 [.ref 0, .ref 1, .ref 20, .int (nI i)] [] h = am_ev 165 18 [.ref 0, .ref 1, .ref 20, .int (nI i + 5)] [] h2 ∧ lI L xs h2 A' (n + 1) := by
  obtain ⟨h1, e1, I1, C1, f1⟩ := c_count J.jc J.jx J.w ((am_I h 0 (Int32.toNatClampNeg (nI i + (1 : Int32)))))
  have sm := f1.mSm J.g
  have r1 := J.row f1
  obtain ⟨h2, e2, I2, f2, X2⟩ := m_count (J.jm.sm sm) (J.je.sm sm) J.w ((am_I h 0 (Int32.toNatClampNeg (nI i + (1 : Int32)))))
  rw [am_b165_18, if_pos (show 5 ≤ am_kd h 0 ∧ am_kd h 0 ≤ 9 by rw [J.r.1]; omega), J.r.2.1, if_neg (show ¬ Int32.ofNat L - 5 < nI i by rw [l_end hL (by omega)]; omega)]
  rw [if_pos (show (am_kd h 0 = 5 ∨ am_kd h 0 = 9) ∧ ¬ (nI i < 0 ∨ L ≤ Int32.toNatClampNeg (nI i)) from l_ix' J.r.1 rfl (by omega) hL), if_neg (l_ne op (by omega) (by omega) (show 10 ≠ 0 by omega)), if_neg (l_ne op (by omega) (by omega) (show 10 ≠ 1 by omega)), if_neg (l_ne op (by omega) (by omega) (show 10 ≠ 2 by omega)), if_neg (l_ne op (by omega) (by omega) (show 10 ≠ 3 by omega)), if_neg (l_ne op (by omega) (by omega) (show 10 ≠ 4 by omega)), if_neg (l_ne op (by omega) (by omega) (show 10 ≠ 5 by omega)), if_neg (l_ne op (by omega) (by omega) (show 10 ≠ 6 by omega)), if_neg (l_ne op (by omega) (by omega) (show 10 ≠ 7 by omega)), if_neg (l_ne op (by omega) (by omega) (show 10 ≠ 8 by omega)), if_neg (l_ne op (by omega) (by omega) (show 10 ≠ 9 by omega)), if_pos op, if_pos (show (am_kd h 0 = 5 ∨ am_kd h 0 = 9) ∧ ¬ (nI i + 1 < 0 ∨ L ≤ Int32.toNatClampNeg (nI i + 1)) from l_ix' J.r.1 (l_a (k := 1) rfl) (by omega) hL), if_pos J.jc.1.k1, e1, x_bI, if_pos (show (am_kd h1 0 = 5 ∨ am_kd h1 0 = 9) ∧ ¬ (nI i + 1 < 0 ∨ am_ln h1 0 ≤ Int32.toNatClampNeg (nI i + 1)) from l_ix r1.1 r1.2.1 (l_a (k := 1) rfl) (by omega) hL), if_pos (show am_kd h1 20 = 4 from (J.jm.sm sm).1.1), r1.2.2, e2, x_bI, if_pos rfl]
  exact ⟨h2, _, rfl, J.step f1 I1 C1 f2 I2 X2 J.W⟩
theorem l_c11 (J : lI L xs h A n) (hi : i + 5 ≤ L) (hL : L ≤ 2560) (op : am_I h 0 (Int32.toNatClampNeg (nI i)) &&& 31 = nI 11) : ∃ h2 A', am_ev 165 18 [.ref 0, .ref 1, .ref 20, .int (nI i)] [] h = am_ev 165 18 [.ref 0, .ref 1, .ref 20, .int (nI i + 5)] [] h2 ∧ lI L xs h2 A' (n + 1) := by
  have e1 := c_worth J.jc J.w ((am_I h 0 (Int32.toNatClampNeg (nI i + (1 : Int32)))))
  have I1 := J.jc
  have C1 := J.jx
  have f1 := J.R
  have sm := f1.mSm J.g
  have r1 := J.row f1
  obtain ⟨h2, e2, I2, f2, X2⟩ := m_worth (J.jm.sm sm) (J.je.sm sm) J.w ((am_I h 0 (Int32.toNatClampNeg (nI i + (1 : Int32)))))
  rw [am_b165_18, if_pos (show 5 ≤ am_kd h 0 ∧ am_kd h 0 ≤ 9 by rw [J.r.1]; omega), J.r.2.1, if_neg (show ¬ Int32.ofNat L - 5 < nI i by rw [l_end hL (by omega)]; omega)]
  rw [if_pos (show (am_kd h 0 = 5 ∨ am_kd h 0 = 9) ∧ ¬ (nI i < 0 ∨ L ≤ Int32.toNatClampNeg (nI i)) from l_ix' J.r.1 rfl (by omega) hL), if_neg (l_ne op (by omega) (by omega) (show 11 ≠ 0 by omega)), if_neg (l_ne op (by omega) (by omega) (show 11 ≠ 1 by omega)), if_neg (l_ne op (by omega) (by omega) (show 11 ≠ 2 by omega)), if_neg (l_ne op (by omega) (by omega) (show 11 ≠ 3 by omega)), if_neg (l_ne op (by omega) (by omega) (show 11 ≠ 4 by omega)), if_neg (l_ne op (by omega) (by omega) (show 11 ≠ 5 by omega)), if_neg (l_ne op (by omega) (by omega) (show 11 ≠ 6 by omega)), if_neg (l_ne op (by omega) (by omega) (show 11 ≠ 7 by omega)), if_neg (l_ne op (by omega) (by omega) (show 11 ≠ 8 by omega)), if_neg (l_ne op (by omega) (by omega) (show 11 ≠ 9 by omega)), if_neg (l_ne op (by omega) (by omega) (show 11 ≠ 10 by omega)), if_pos op, if_pos (show (am_kd h 0 = 5 ∨ am_kd h 0 = 9) ∧ ¬ (nI i + 1 < 0 ∨ L ≤ Int32.toNatClampNeg (nI i + 1)) from l_ix' J.r.1 (l_a (k := 1) rfl) (by omega) hL), if_pos J.jc.1.k1, e1, x_bI, if_pos (show (am_kd h 0 = 5 ∨ am_kd h 0 = 9) ∧ ¬ (nI i + 1 < 0 ∨ am_ln h 0 ≤ Int32.toNatClampNeg (nI i + 1)) from l_ix J.r.1 J.r.2.1 (l_a (k := 1) rfl) (by omega) hL), if_pos (show am_kd h 20 = 4 from J.jm.1.1), e2, x_bI, if_pos rfl]
  exact ⟨h2, _, rfl, J.step f1 I1 C1 f2 I2 X2 J.W⟩
theorem l_c12 (J : lI L xs h A n) (hi : i + 5 ≤ L) (hL : L ≤ 2560) (op : am_I h 0 (Int32.toNatClampNeg (nI i)) &&& 31 = nI 12) : ∃ h2 A', am_ev 165 18 [.ref 0, .ref 1, .ref 20, .int (nI i)] [] h = am_ev 165 18 [.ref 0, .ref 1, .ref 20, .int (nI i + 5)] [] h2 ∧ lI L xs h2 A' (n + 1) := by
  obtain ⟨h1, e1, I1, C1, f1⟩ := c_extreme J.jc J.jx J.w ((am_I h 0 (Int32.toNatClampNeg (nI i + (1 : Int32))))) ((am_I h 0 (Int32.toNatClampNeg (nI i + (2 : Int32)))))
  have sm := f1.mSm J.g
  have r1 := J.row f1
  obtain ⟨h2, e2, I2, f2, X2⟩ := m_extreme (J.jm.sm sm) (J.je.sm sm) J.w ((am_I h 0 (Int32.toNatClampNeg (nI i + (1 : Int32))))) ((am_I h 0 (Int32.toNatClampNeg (nI i + (2 : Int32)))))
  rw [am_b165_18, if_pos (show 5 ≤ am_kd h 0 ∧ am_kd h 0 ≤ 9 by rw [J.r.1]; omega), J.r.2.1, if_neg (show ¬ Int32.ofNat L - 5 < nI i by rw [l_end hL (by omega)]; omega)]
  rw [if_pos (show (am_kd h 0 = 5 ∨ am_kd h 0 = 9) ∧ ¬ (nI i < 0 ∨ L ≤ Int32.toNatClampNeg (nI i)) from l_ix' J.r.1 rfl (by omega) hL), if_neg (l_ne op (by omega) (by omega) (show 12 ≠ 0 by omega)), if_neg (l_ne op (by omega) (by omega) (show 12 ≠ 1 by omega)), if_neg (l_ne op (by omega) (by omega) (show 12 ≠ 2 by omega)), if_neg (l_ne op (by omega) (by omega) (show 12 ≠ 3 by omega)), if_neg (l_ne op (by omega) (by omega) (show 12 ≠ 4 by omega)), if_neg (l_ne op (by omega) (by omega) (show 12 ≠ 5 by omega)), if_neg (l_ne op (by omega) (by omega) (show 12 ≠ 6 by omega)), if_neg (l_ne op (by omega) (by omega) (show 12 ≠ 7 by omega)), if_neg (l_ne op (by omega) (by omega) (show 12 ≠ 8 by omega)), if_neg (l_ne op (by omega) (by omega) (show 12 ≠ 9 by omega)), if_neg (l_ne op (by omega) (by omega) (show 12 ≠ 10 by omega)), if_neg (l_ne op (by omega) (by omega) (show 12 ≠ 11 by omega)), if_pos op, if_pos (show (am_kd h 0 = 5 ∨ am_kd h 0 = 9) ∧ ¬ (nI i + 1 < 0 ∨ L ≤ Int32.toNatClampNeg (nI i + 1)) from l_ix' J.r.1 (l_a (k := 1) rfl) (by omega) hL), if_pos (show (am_kd h 0 = 5 ∨ am_kd h 0 = 9) ∧ ¬ (nI i + 2 < 0 ∨ L ≤ Int32.toNatClampNeg (nI i + 2)) from l_ix' J.r.1 (l_a (k := 2) rfl) (by omega) hL), if_pos J.jc.1.k1, e1, x_bI, if_pos (show (am_kd h1 0 = 5 ∨ am_kd h1 0 = 9) ∧ ¬ (nI i + 1 < 0 ∨ am_ln h1 0 ≤ Int32.toNatClampNeg (nI i + 1)) from l_ix r1.1 r1.2.1 (l_a (k := 1) rfl) (by omega) hL), if_pos (show (am_kd h1 0 = 5 ∨ am_kd h1 0 = 9) ∧ ¬ (nI i + 2 < 0 ∨ am_ln h1 0 ≤ Int32.toNatClampNeg (nI i + 2)) from l_ix r1.1 r1.2.1 (l_a (k := 2) rfl) (by omega) hL), if_pos (show am_kd h1 20 = 4 from (J.jm.sm sm).1.1), r1.2.2, e2, x_bI, if_pos rfl]
  exact ⟨h2, _, rfl, J.step f1 I1 C1 f2 I2 X2 J.W⟩
theorem l_c13 (J : lI L xs h A n) (hi : i + 5 ≤ L) (hL : L ≤ 2560) (op : am_I h 0 (Int32.toNatClampNeg (nI i)) &&& 31 = nI 13) : ∃ h2 A', am_ev 165 18 [.ref 0, .ref 1, .ref 20, .int (nI i)] [] h = am_ev 165 18 [.ref 0, .ref 1, .ref 20, .int (nI i + 5)] [] h2 ∧ lI L xs h2 A' (n + 1) := by
  obtain ⟨h1, e1, I1, C1, f1⟩ := c_best J.jc J.jx J.w ((am_I h 0 (Int32.toNatClampNeg (nI i + (1 : Int32))))) ((am_I h 0 (Int32.toNatClampNeg (nI i + (2 : Int32)))))
  have sm := f1.mSm J.g
  have r1 := J.row f1
  obtain ⟨h2, e2, I2, f2, X2⟩ := m_best (J.jm.sm sm) (J.je.sm sm) J.w ((am_I h 0 (Int32.toNatClampNeg (nI i + (1 : Int32))))) ((am_I h 0 (Int32.toNatClampNeg (nI i + (2 : Int32)))))
  rw [am_b165_18, if_pos (show 5 ≤ am_kd h 0 ∧ am_kd h 0 ≤ 9 by rw [J.r.1]; omega), J.r.2.1, if_neg (show ¬ Int32.ofNat L - 5 < nI i by rw [l_end hL (by omega)]; omega)]
  rw [if_pos (show (am_kd h 0 = 5 ∨ am_kd h 0 = 9) ∧ ¬ (nI i < 0 ∨ L ≤ Int32.toNatClampNeg (nI i)) from l_ix' J.r.1 rfl (by omega) hL), if_neg (l_ne op (by omega) (by omega) (show 13 ≠ 0 by omega)), if_neg (l_ne op (by omega) (by omega) (show 13 ≠ 1 by omega)), if_neg (l_ne op (by omega) (by omega) (show 13 ≠ 2 by omega)), if_neg (l_ne op (by omega) (by omega) (show 13 ≠ 3 by omega)), if_neg (l_ne op (by omega) (by omega) (show 13 ≠ 4 by omega)), if_neg (l_ne op (by omega) (by omega) (show 13 ≠ 5 by omega)), if_neg (l_ne op (by omega) (by omega) (show 13 ≠ 6 by omega)), if_neg (l_ne op (by omega) (by omega) (show 13 ≠ 7 by omega)), if_neg (l_ne op (by omega) (by omega) (show 13 ≠ 8 by omega)), if_neg (l_ne op (by omega) (by omega) (show 13 ≠ 9 by omega)), if_neg (l_ne op (by omega) (by omega) (show 13 ≠ 10 by omega)), if_neg (l_ne op (by omega) (by omega) (show 13 ≠ 11 by omega)), if_neg (l_ne op (by omega) (by omega) (show 13 ≠ 12 by omega)), if_pos op, if_pos (show (am_kd h 0 = 5 ∨ am_kd h 0 = 9) ∧ ¬ (nI i + 1 < 0 ∨ L ≤ Int32.toNatClampNeg (nI i + 1)) from l_ix' J.r.1 (l_a (k := 1) rfl) (by omega) hL), if_pos (show (am_kd h 0 = 5 ∨ am_kd h 0 = 9) ∧ ¬ (nI i + 2 < 0 ∨ L ≤ Int32.toNatClampNeg (nI i + 2)) from l_ix' J.r.1 (l_a (k := 2) rfl) (by omega) hL), if_pos J.jc.1.k1, e1, x_bI, if_pos (show (am_kd h1 0 = 5 ∨ am_kd h1 0 = 9) ∧ ¬ (nI i + 1 < 0 ∨ am_ln h1 0 ≤ Int32.toNatClampNeg (nI i + 1)) from l_ix r1.1 r1.2.1 (l_a (k := 1) rfl) (by omega) hL), if_pos (show (am_kd h1 0 = 5 ∨ am_kd h1 0 = 9) ∧ ¬ (nI i + 2 < 0 ∨ am_ln h1 0 ≤ Int32.toNatClampNeg (nI i + 2)) from l_ix r1.1 r1.2.1 (l_a (k := 2) rfl) (by omega) hL), if_pos (show am_kd h1 20 = 4 from (J.jm.sm sm).1.1), r1.2.2, e2, x_bI, if_pos rfl]
  exact ⟨h2, _, rfl, J.step f1 I1 C1 f2 I2 X2 J.W⟩
theorem l_c14 (J : lI L xs h A n) (hi : i + 5 ≤ L) (hL : L ≤ 2560) (op : am_I h 0 (Int32.toNatClampNeg (nI i)) &&& 31 = nI 14) : ∃ h2 A', am_ev 165 18 [.ref 0, .ref 1, .ref 20, .int (nI i)] [] h = am_ev 165 18 [.ref 0, .ref 1, .ref 20, .int (nI i + 5)] [] h2 ∧ lI L xs h2 A' (n + 1) := by
  obtain ⟨h1, e1, I1, C1, f1⟩ := c_never J.jc J.jx J.w ((am_I h 0 (Int32.toNatClampNeg (nI i + (1 : Int32)))))
  have sm := f1.mSm J.g
  have r1 := J.row f1
  obtain ⟨h2, e2, I2, f2, X2⟩ := m_never (J.jm.sm sm) (J.je.sm sm) J.w ((am_I h 0 (Int32.toNatClampNeg (nI i + (1 : Int32)))))
  rw [am_b165_18, if_pos (show 5 ≤ am_kd h 0 ∧ am_kd h 0 ≤ 9 by rw [J.r.1]; omega), J.r.2.1, if_neg (show ¬ Int32.ofNat L - 5 < nI i by rw [l_end hL (by omega)]; omega)]
  rw [if_pos (show (am_kd h 0 = 5 ∨ am_kd h 0 = 9) ∧ ¬ (nI i < 0 ∨ L ≤ Int32.toNatClampNeg (nI i)) from l_ix' J.r.1 rfl (by omega) hL), if_neg (l_ne op (by omega) (by omega) (show 14 ≠ 0 by omega)), if_neg (l_ne op (by omega) (by omega) (show 14 ≠ 1 by omega)), if_neg (l_ne op (by omega) (by omega) (show 14 ≠ 2 by omega)), if_neg (l_ne op (by omega) (by omega) (show 14 ≠ 3 by omega)), if_neg (l_ne op (by omega) (by omega) (show 14 ≠ 4 by omega)), if_neg (l_ne op (by omega) (by omega) (show 14 ≠ 5 by omega)), if_neg (l_ne op (by omega) (by omega) (show 14 ≠ 6 by omega)), if_neg (l_ne op (by omega) (by omega) (show 14 ≠ 7 by omega)), if_neg (l_ne op (by omega) (by omega) (show 14 ≠ 8 by omega)), if_neg (l_ne op (by omega) (by omega) (show 14 ≠ 9 by omega)), if_neg (l_ne op (by omega) (by omega) (show 14 ≠ 10 by omega)), if_neg (l_ne op (by omega) (by omega) (show 14 ≠ 11 by omega)), if_neg (l_ne op (by omega) (by omega) (show 14 ≠ 12 by omega)), if_neg (l_ne op (by omega) (by omega) (show 14 ≠ 13 by omega)), if_pos op, if_pos (show (am_kd h 0 = 5 ∨ am_kd h 0 = 9) ∧ ¬ (nI i + 1 < 0 ∨ L ≤ Int32.toNatClampNeg (nI i + 1)) from l_ix' J.r.1 (l_a (k := 1) rfl) (by omega) hL), if_pos J.jc.1.k1, e1, x_bI, if_pos (show (am_kd h1 0 = 5 ∨ am_kd h1 0 = 9) ∧ ¬ (nI i + 1 < 0 ∨ am_ln h1 0 ≤ Int32.toNatClampNeg (nI i + 1)) from l_ix r1.1 r1.2.1 (l_a (k := 1) rfl) (by omega) hL), if_pos (show am_kd h1 20 = 4 from (J.jm.sm sm).1.1), r1.2.2, e2, x_bI, if_pos rfl]
  exact ⟨h2, _, rfl, J.step f1 I1 C1 f2 I2 X2 J.W⟩
theorem l_c15 (J : lI L xs h A n) (hi : i + 5 ≤ L) (hL : L ≤ 2560) (op : am_I h 0 (Int32.toNatClampNeg (nI i)) &&& 31 = nI 15) : ∃ h2 A', am_ev 165 18 [.ref 0, .ref 1, .ref 20, .int (nI i)] [] h = am_ev 165 18 [.ref 0, .ref 1, .ref 20, .int (nI i + 5)] [] h2 ∧ lI L xs h2 A' (n + 1) := by
  have e1 := c_sure J.jc 
  have I1 := J.jc
  have C1 := J.jx
  have f1 := J.R
  have sm := f1.mSm J.g
  have r1 := J.row f1
  obtain ⟨h2, e2, I2, f2, X2⟩ := m_sure (J.jm.sm sm) (J.je.sm sm) 
  rw [am_b165_18, if_pos (show 5 ≤ am_kd h 0 ∧ am_kd h 0 ≤ 9 by rw [J.r.1]; omega), J.r.2.1, if_neg (show ¬ Int32.ofNat L - 5 < nI i by rw [l_end hL (by omega)]; omega)]
  rw [if_pos (show (am_kd h 0 = 5 ∨ am_kd h 0 = 9) ∧ ¬ (nI i < 0 ∨ L ≤ Int32.toNatClampNeg (nI i)) from l_ix' J.r.1 rfl (by omega) hL), if_neg (l_ne op (by omega) (by omega) (show 15 ≠ 0 by omega)), if_neg (l_ne op (by omega) (by omega) (show 15 ≠ 1 by omega)), if_neg (l_ne op (by omega) (by omega) (show 15 ≠ 2 by omega)), if_neg (l_ne op (by omega) (by omega) (show 15 ≠ 3 by omega)), if_neg (l_ne op (by omega) (by omega) (show 15 ≠ 4 by omega)), if_neg (l_ne op (by omega) (by omega) (show 15 ≠ 5 by omega)), if_neg (l_ne op (by omega) (by omega) (show 15 ≠ 6 by omega)), if_neg (l_ne op (by omega) (by omega) (show 15 ≠ 7 by omega)), if_neg (l_ne op (by omega) (by omega) (show 15 ≠ 8 by omega)), if_neg (l_ne op (by omega) (by omega) (show 15 ≠ 9 by omega)), if_neg (l_ne op (by omega) (by omega) (show 15 ≠ 10 by omega)), if_neg (l_ne op (by omega) (by omega) (show 15 ≠ 11 by omega)), if_neg (l_ne op (by omega) (by omega) (show 15 ≠ 12 by omega)), if_neg (l_ne op (by omega) (by omega) (show 15 ≠ 13 by omega)), if_neg (l_ne op (by omega) (by omega) (show 15 ≠ 14 by omega)), if_pos op, if_pos J.jc.1.k1, e1, x_bI, if_pos (show am_kd h 20 = 4 from J.jm.1.1), e2, x_bI, if_pos rfl]
  exact ⟨h2, _, rfl, J.step f1 I1 C1 f2 I2 X2 J.W⟩
theorem l_c16 (J : lI L xs h A n) (hi : i + 5 ≤ L) (hL : L ≤ 2560) (op : am_I h 0 (Int32.toNatClampNeg (nI i)) &&& 31 = nI 16) : ∃ h2 A', am_ev 165 18 [.ref 0, .ref 1, .ref 20, .int (nI i)] [] h = am_ev 165 18 [.ref 0, .ref 1, .ref 20, .int (nI i + 5)] [] h2 ∧ lI L xs h2 A' (n + 1) := by
  obtain ⟨h1, e1, I1, g1⟩ := c_put J.jc ((((Int32.toInt64 (am_I h 0 (Int32.toNatClampNeg (nI i + (1 : Int32))))) <<< (Int32.toInt64 (32 : Int32) &&& 63)) ||| ((Int32.toInt64 (am_I h 0 (Int32.toNatClampNeg (nI i + (2 : Int32))))) &&& (4294967295 : Int64))))
  obtain ⟨C1, f1⟩ := J.N g1
  have sm := f1.mSm J.g
  have r1 := J.row f1
  obtain ⟨h2, e2, I2, f2, X2⟩ := m_put (J.jm.sm sm) (J.je.sm sm) ((((Int32.toInt64 (am_I h 0 (Int32.toNatClampNeg (nI i + (1 : Int32))))) <<< (Int32.toInt64 (32 : Int32) &&& 63)) ||| ((Int32.toInt64 (am_I h 0 (Int32.toNatClampNeg (nI i + (2 : Int32))))) &&& (4294967295 : Int64))))
  rw [am_b165_18, if_pos (show 5 ≤ am_kd h 0 ∧ am_kd h 0 ≤ 9 by rw [J.r.1]; omega), J.r.2.1, if_neg (show ¬ Int32.ofNat L - 5 < nI i by rw [l_end hL (by omega)]; omega)]
  rw [if_pos (show (am_kd h 0 = 5 ∨ am_kd h 0 = 9) ∧ ¬ (nI i < 0 ∨ L ≤ Int32.toNatClampNeg (nI i)) from l_ix' J.r.1 rfl (by omega) hL), if_neg (l_ne op (by omega) (by omega) (show 16 ≠ 0 by omega)), if_neg (l_ne op (by omega) (by omega) (show 16 ≠ 1 by omega)), if_neg (l_ne op (by omega) (by omega) (show 16 ≠ 2 by omega)), if_neg (l_ne op (by omega) (by omega) (show 16 ≠ 3 by omega)), if_neg (l_ne op (by omega) (by omega) (show 16 ≠ 4 by omega)), if_neg (l_ne op (by omega) (by omega) (show 16 ≠ 5 by omega)), if_neg (l_ne op (by omega) (by omega) (show 16 ≠ 6 by omega)), if_neg (l_ne op (by omega) (by omega) (show 16 ≠ 7 by omega)), if_neg (l_ne op (by omega) (by omega) (show 16 ≠ 8 by omega)), if_neg (l_ne op (by omega) (by omega) (show 16 ≠ 9 by omega)), if_neg (l_ne op (by omega) (by omega) (show 16 ≠ 10 by omega)), if_neg (l_ne op (by omega) (by omega) (show 16 ≠ 11 by omega)), if_neg (l_ne op (by omega) (by omega) (show 16 ≠ 12 by omega)), if_neg (l_ne op (by omega) (by omega) (show 16 ≠ 13 by omega)), if_neg (l_ne op (by omega) (by omega) (show 16 ≠ 14 by omega)), if_neg (l_ne op (by omega) (by omega) (show 16 ≠ 15 by omega)), if_pos op, if_pos (show (am_kd h 0 = 5 ∨ am_kd h 0 = 9) ∧ ¬ (nI i + 1 < 0 ∨ L ≤ Int32.toNatClampNeg (nI i + 1)) from l_ix' J.r.1 (l_a (k := 1) rfl) (by omega) hL), if_pos (show (am_kd h 0 = 5 ∨ am_kd h 0 = 9) ∧ ¬ (nI i + 2 < 0 ∨ L ≤ Int32.toNatClampNeg (nI i + 2)) from l_ix' J.r.1 (l_a (k := 2) rfl) (by omega) hL), if_pos J.jc.1.k1, e1, x_bI, if_pos (show (am_kd h1 0 = 5 ∨ am_kd h1 0 = 9) ∧ ¬ (nI i + 1 < 0 ∨ am_ln h1 0 ≤ Int32.toNatClampNeg (nI i + 1)) from l_ix r1.1 r1.2.1 (l_a (k := 1) rfl) (by omega) hL), if_pos (show (am_kd h1 0 = 5 ∨ am_kd h1 0 = 9) ∧ ¬ (nI i + 2 < 0 ∨ am_ln h1 0 ≤ Int32.toNatClampNeg (nI i + 2)) from l_ix r1.1 r1.2.1 (l_a (k := 2) rfl) (by omega) hL), if_pos (show am_kd h1 20 = 4 from (J.jm.sm sm).1.1), r1.2.2, e2, x_bI, if_pos rfl]
  exact ⟨h2, _, rfl, J.step f1 I1 C1 f2 I2 X2 (allwf_put J.W ((((Int32.toInt64 (am_I h 0 (Int32.toNatClampNeg (nI i + (1 : Int32))))) <<< (Int32.toInt64 (32 : Int32) &&& 63)) ||| ((Int32.toInt64 (am_I h 0 (Int32.toNatClampNeg (nI i + (2 : Int32))))) &&& (4294967295 : Int64)))))⟩
theorem l_c17 (J : lI L xs h A n) (hi : i + 5 ≤ L) (hL : L ≤ 2560) (op : am_I h 0 (Int32.toNatClampNeg (nI i)) &&& 31 = nI 17) : ∃ h2 A', am_ev 165 18 [.ref 0, .ref 1, .ref 20, .int (nI i)] [] h = am_ev 165 18 [.ref 0, .ref 1, .ref 20, .int (nI i + 5)] [] h2 ∧ lI L xs h2 A' (n + 1) := by
  obtain ⟨h1, e1, I1, g1⟩ := c_wipe J.jc 
  obtain ⟨C1, f1⟩ := J.N g1
  have sm := f1.mSm J.g
  have r1 := J.row f1
  obtain ⟨h2, e2, I2, f2, X2⟩ := m_wipe (J.jm.sm sm) (J.je.sm sm) 
  rw [am_b165_18, if_pos (show 5 ≤ am_kd h 0 ∧ am_kd h 0 ≤ 9 by rw [J.r.1]; omega), J.r.2.1, if_neg (show ¬ Int32.ofNat L - 5 < nI i by rw [l_end hL (by omega)]; omega)]
  rw [if_pos (show (am_kd h 0 = 5 ∨ am_kd h 0 = 9) ∧ ¬ (nI i < 0 ∨ L ≤ Int32.toNatClampNeg (nI i)) from l_ix' J.r.1 rfl (by omega) hL), if_neg (l_ne op (by omega) (by omega) (show 17 ≠ 0 by omega)), if_neg (l_ne op (by omega) (by omega) (show 17 ≠ 1 by omega)), if_neg (l_ne op (by omega) (by omega) (show 17 ≠ 2 by omega)), if_neg (l_ne op (by omega) (by omega) (show 17 ≠ 3 by omega)), if_neg (l_ne op (by omega) (by omega) (show 17 ≠ 4 by omega)), if_neg (l_ne op (by omega) (by omega) (show 17 ≠ 5 by omega)), if_neg (l_ne op (by omega) (by omega) (show 17 ≠ 6 by omega)), if_neg (l_ne op (by omega) (by omega) (show 17 ≠ 7 by omega)), if_neg (l_ne op (by omega) (by omega) (show 17 ≠ 8 by omega)), if_neg (l_ne op (by omega) (by omega) (show 17 ≠ 9 by omega)), if_neg (l_ne op (by omega) (by omega) (show 17 ≠ 10 by omega)), if_neg (l_ne op (by omega) (by omega) (show 17 ≠ 11 by omega)), if_neg (l_ne op (by omega) (by omega) (show 17 ≠ 12 by omega)), if_neg (l_ne op (by omega) (by omega) (show 17 ≠ 13 by omega)), if_neg (l_ne op (by omega) (by omega) (show 17 ≠ 14 by omega)), if_neg (l_ne op (by omega) (by omega) (show 17 ≠ 15 by omega)), if_neg (l_ne op (by omega) (by omega) (show 17 ≠ 16 by omega)), if_pos op, if_pos J.jc.1.k1, e1, x_bI, if_pos (show am_kd h1 20 = 4 from (J.jm.sm sm).1.1), e2, x_bI, if_pos rfl]
  exact ⟨h2, _, rfl, J.step f1 I1 C1 f2 I2 X2 (allwf_wipe J.W )⟩
theorem l_c18 (J : lI L xs h A n) (hi : i + 5 ≤ L) (hL : L ≤ 2560) (op : am_I h 0 (Int32.toNatClampNeg (nI i)) &&& 31 = nI 18) : ∃ h2 A', am_ev 165 18 [.ref 0, .ref 1, .ref 20, .int (nI i)] [] h = am_ev 165 18 [.ref 0, .ref 1, .ref 20, .int (nI i + 5)] [] h2 ∧ lI L xs h2 A' (n + 1) := by
  obtain ⟨h1, e1, I1, g1⟩ := c_fault J.jc 
  obtain ⟨C1, f1⟩ := J.N g1
  have sm := f1.mSm J.g
  have r1 := J.row f1
  obtain ⟨h2, e2, I2, f2, X2⟩ := m_fault (J.jm.sm sm) (J.je.sm sm) 
  rw [am_b165_18, if_pos (show 5 ≤ am_kd h 0 ∧ am_kd h 0 ≤ 9 by rw [J.r.1]; omega), J.r.2.1, if_neg (show ¬ Int32.ofNat L - 5 < nI i by rw [l_end hL (by omega)]; omega)]
  rw [if_pos (show (am_kd h 0 = 5 ∨ am_kd h 0 = 9) ∧ ¬ (nI i < 0 ∨ L ≤ Int32.toNatClampNeg (nI i)) from l_ix' J.r.1 rfl (by omega) hL), if_neg (l_ne op (by omega) (by omega) (show 18 ≠ 0 by omega)), if_neg (l_ne op (by omega) (by omega) (show 18 ≠ 1 by omega)), if_neg (l_ne op (by omega) (by omega) (show 18 ≠ 2 by omega)), if_neg (l_ne op (by omega) (by omega) (show 18 ≠ 3 by omega)), if_neg (l_ne op (by omega) (by omega) (show 18 ≠ 4 by omega)), if_neg (l_ne op (by omega) (by omega) (show 18 ≠ 5 by omega)), if_neg (l_ne op (by omega) (by omega) (show 18 ≠ 6 by omega)), if_neg (l_ne op (by omega) (by omega) (show 18 ≠ 7 by omega)), if_neg (l_ne op (by omega) (by omega) (show 18 ≠ 8 by omega)), if_neg (l_ne op (by omega) (by omega) (show 18 ≠ 9 by omega)), if_neg (l_ne op (by omega) (by omega) (show 18 ≠ 10 by omega)), if_neg (l_ne op (by omega) (by omega) (show 18 ≠ 11 by omega)), if_neg (l_ne op (by omega) (by omega) (show 18 ≠ 12 by omega)), if_neg (l_ne op (by omega) (by omega) (show 18 ≠ 13 by omega)), if_neg (l_ne op (by omega) (by omega) (show 18 ≠ 14 by omega)), if_neg (l_ne op (by omega) (by omega) (show 18 ≠ 15 by omega)), if_neg (l_ne op (by omega) (by omega) (show 18 ≠ 16 by omega)), if_neg (l_ne op (by omega) (by omega) (show 18 ≠ 17 by omega)), if_pos op, if_pos J.jc.1.k1, e1, x_bI, if_pos (show am_kd h1 20 = 4 from (J.jm.sm sm).1.1), e2, x_bI, if_pos rfl]
  exact ⟨h2, _, rfl, J.step f1 I1 C1 f2 I2 X2 J.W⟩
theorem l_c19 (J : lI L xs h A n) (hi : i + 5 ≤ L) (hL : L ≤ 2560) (op : am_I h 0 (Int32.toNatClampNeg (nI i)) &&& 31 = nI 19) : ∃ h2 A', am_ev 165 18 [.ref 0, .ref 1, .ref 20, .int (nI i)] [] h = am_ev 165 18 [.ref 0, .ref 1, .ref 20, .int (nI i + 5)] [] h2 ∧ lI L xs h2 A' (n + 1) := by
  obtain ⟨h1, e1, I1, g1⟩ := c_undo J.jc 
  obtain ⟨C1, f1⟩ := J.N g1
  have sm := f1.mSm J.g
  have r1 := J.row f1
  obtain ⟨h2, e2, I2, f2, X2⟩ := m_undo (J.jm.sm sm) (J.je.sm sm) J.W.2.2.1 
  rw [am_b165_18, if_pos (show 5 ≤ am_kd h 0 ∧ am_kd h 0 ≤ 9 by rw [J.r.1]; omega), J.r.2.1, if_neg (show ¬ Int32.ofNat L - 5 < nI i by rw [l_end hL (by omega)]; omega)]
  rw [if_pos (show (am_kd h 0 = 5 ∨ am_kd h 0 = 9) ∧ ¬ (nI i < 0 ∨ L ≤ Int32.toNatClampNeg (nI i)) from l_ix' J.r.1 rfl (by omega) hL), if_neg (l_ne op (by omega) (by omega) (show 19 ≠ 0 by omega)), if_neg (l_ne op (by omega) (by omega) (show 19 ≠ 1 by omega)), if_neg (l_ne op (by omega) (by omega) (show 19 ≠ 2 by omega)), if_neg (l_ne op (by omega) (by omega) (show 19 ≠ 3 by omega)), if_neg (l_ne op (by omega) (by omega) (show 19 ≠ 4 by omega)), if_neg (l_ne op (by omega) (by omega) (show 19 ≠ 5 by omega)), if_neg (l_ne op (by omega) (by omega) (show 19 ≠ 6 by omega)), if_neg (l_ne op (by omega) (by omega) (show 19 ≠ 7 by omega)), if_neg (l_ne op (by omega) (by omega) (show 19 ≠ 8 by omega)), if_neg (l_ne op (by omega) (by omega) (show 19 ≠ 9 by omega)), if_neg (l_ne op (by omega) (by omega) (show 19 ≠ 10 by omega)), if_neg (l_ne op (by omega) (by omega) (show 19 ≠ 11 by omega)), if_neg (l_ne op (by omega) (by omega) (show 19 ≠ 12 by omega)), if_neg (l_ne op (by omega) (by omega) (show 19 ≠ 13 by omega)), if_neg (l_ne op (by omega) (by omega) (show 19 ≠ 14 by omega)), if_neg (l_ne op (by omega) (by omega) (show 19 ≠ 15 by omega)), if_neg (l_ne op (by omega) (by omega) (show 19 ≠ 16 by omega)), if_neg (l_ne op (by omega) (by omega) (show 19 ≠ 17 by omega)), if_neg (l_ne op (by omega) (by omega) (show 19 ≠ 18 by omega)), if_pos op, if_pos J.jc.1.k1, e1, x_bI, if_pos (show am_kd h1 20 = 4 from (J.jm.sm sm).1.1), e2, x_bI, if_pos rfl]
  exact ⟨h2, _, rfl, J.step f1 I1 C1 f2 I2 X2 (allwf_undo J.W )⟩
theorem l_c20 (J : lI L xs h A n) (hi : i + 5 ≤ L) (hL : L ≤ 2560) (op : am_I h 0 (Int32.toNatClampNeg (nI i)) &&& 31 = nI 20) : ∃ h2 A', am_ev 165 18 [.ref 0, .ref 1, .ref 20, .int (nI i)] [] h = am_ev 165 18 [.ref 0, .ref 1, .ref 20, .int (nI i + 5)] [] h2 ∧ lI L xs h2 A' (n + 1) := by
  obtain ⟨h1, e1, I1, g1⟩ := c_save J.jc J.w ((am_I h 0 (Int32.toNatClampNeg (nI i + (1 : Int32)))))
  obtain ⟨C1, f1⟩ := J.N g1
  have sm := f1.mSm J.g
  have r1 := J.row f1
  obtain ⟨h2, e2, I2, f2, X2⟩ := m_save (J.jm.sm sm) (J.je.sm sm) ((am_I h 0 (Int32.toNatClampNeg (nI i + (1 : Int32)))))
  rw [am_b165_18, if_pos (show 5 ≤ am_kd h 0 ∧ am_kd h 0 ≤ 9 by rw [J.r.1]; omega), J.r.2.1, if_neg (show ¬ Int32.ofNat L - 5 < nI i by rw [l_end hL (by omega)]; omega)]
  rw [if_pos (show (am_kd h 0 = 5 ∨ am_kd h 0 = 9) ∧ ¬ (nI i < 0 ∨ L ≤ Int32.toNatClampNeg (nI i)) from l_ix' J.r.1 rfl (by omega) hL), if_neg (l_ne op (by omega) (by omega) (show 20 ≠ 0 by omega)), if_neg (l_ne op (by omega) (by omega) (show 20 ≠ 1 by omega)), if_neg (l_ne op (by omega) (by omega) (show 20 ≠ 2 by omega)), if_neg (l_ne op (by omega) (by omega) (show 20 ≠ 3 by omega)), if_neg (l_ne op (by omega) (by omega) (show 20 ≠ 4 by omega)), if_neg (l_ne op (by omega) (by omega) (show 20 ≠ 5 by omega)), if_neg (l_ne op (by omega) (by omega) (show 20 ≠ 6 by omega)), if_neg (l_ne op (by omega) (by omega) (show 20 ≠ 7 by omega)), if_neg (l_ne op (by omega) (by omega) (show 20 ≠ 8 by omega)), if_neg (l_ne op (by omega) (by omega) (show 20 ≠ 9 by omega)), if_neg (l_ne op (by omega) (by omega) (show 20 ≠ 10 by omega)), if_neg (l_ne op (by omega) (by omega) (show 20 ≠ 11 by omega)), if_neg (l_ne op (by omega) (by omega) (show 20 ≠ 12 by omega)), if_neg (l_ne op (by omega) (by omega) (show 20 ≠ 13 by omega)), if_neg (l_ne op (by omega) (by omega) (show 20 ≠ 14 by omega)), if_neg (l_ne op (by omega) (by omega) (show 20 ≠ 15 by omega)), if_neg (l_ne op (by omega) (by omega) (show 20 ≠ 16 by omega)), if_neg (l_ne op (by omega) (by omega) (show 20 ≠ 17 by omega)), if_neg (l_ne op (by omega) (by omega) (show 20 ≠ 18 by omega)), if_neg (l_ne op (by omega) (by omega) (show 20 ≠ 19 by omega)), if_pos op, if_pos (show (am_kd h 0 = 5 ∨ am_kd h 0 = 9) ∧ ¬ (nI i + 1 < 0 ∨ L ≤ Int32.toNatClampNeg (nI i + 1)) from l_ix' J.r.1 (l_a (k := 1) rfl) (by omega) hL), if_pos J.jc.1.k1, e1, x_bI, if_pos (show (am_kd h1 0 = 5 ∨ am_kd h1 0 = 9) ∧ ¬ (nI i + 1 < 0 ∨ am_ln h1 0 ≤ Int32.toNatClampNeg (nI i + 1)) from l_ix r1.1 r1.2.1 (l_a (k := 1) rfl) (by omega) hL), if_pos (show am_kd h1 20 = 4 from (J.jm.sm sm).1.1), r1.2.2, e2, x_bI, if_pos rfl]
  exact ⟨h2, _, rfl, J.step f1 I1 C1 f2 I2 X2 (allwf_save J.W ((am_I h 0 (Int32.toNatClampNeg (nI i + (1 : Int32))))))⟩
theorem l_c21 (J : lI L xs h A n) (hi : i + 5 ≤ L) (hL : L ≤ 2560) (op : am_I h 0 (Int32.toNatClampNeg (nI i)) &&& 31 = nI 21) : ∃ h2 A', am_ev 165 18 [.ref 0, .ref 1, .ref 20, .int (nI i)] [] h = am_ev 165 18 [.ref 0, .ref 1, .ref 20, .int (nI i + 5)] [] h2 ∧ lI L xs h2 A' (n + 1) := by
  obtain ⟨h1, e1, I1, g1⟩ := c_restore J.jc J.W.2.2.2 ((am_I h 0 (Int32.toNatClampNeg (nI i + (1 : Int32)))))
  obtain ⟨C1, f1⟩ := J.N g1
  have sm := f1.mSm J.g
  have r1 := J.row f1
  obtain ⟨h2, e2, I2, f2, X2⟩ := m_restore (J.jm.sm sm) (J.je.sm sm) J.W.2.2.2 ((am_I h 0 (Int32.toNatClampNeg (nI i + (1 : Int32)))))
  rw [am_b165_18, if_pos (show 5 ≤ am_kd h 0 ∧ am_kd h 0 ≤ 9 by rw [J.r.1]; omega), J.r.2.1, if_neg (show ¬ Int32.ofNat L - 5 < nI i by rw [l_end hL (by omega)]; omega)]
  rw [if_pos (show (am_kd h 0 = 5 ∨ am_kd h 0 = 9) ∧ ¬ (nI i < 0 ∨ L ≤ Int32.toNatClampNeg (nI i)) from l_ix' J.r.1 rfl (by omega) hL), if_neg (l_ne op (by omega) (by omega) (show 21 ≠ 0 by omega)), if_neg (l_ne op (by omega) (by omega) (show 21 ≠ 1 by omega)), if_neg (l_ne op (by omega) (by omega) (show 21 ≠ 2 by omega)), if_neg (l_ne op (by omega) (by omega) (show 21 ≠ 3 by omega)), if_neg (l_ne op (by omega) (by omega) (show 21 ≠ 4 by omega)), if_neg (l_ne op (by omega) (by omega) (show 21 ≠ 5 by omega)), if_neg (l_ne op (by omega) (by omega) (show 21 ≠ 6 by omega)), if_neg (l_ne op (by omega) (by omega) (show 21 ≠ 7 by omega)), if_neg (l_ne op (by omega) (by omega) (show 21 ≠ 8 by omega)), if_neg (l_ne op (by omega) (by omega) (show 21 ≠ 9 by omega)), if_neg (l_ne op (by omega) (by omega) (show 21 ≠ 10 by omega)), if_neg (l_ne op (by omega) (by omega) (show 21 ≠ 11 by omega)), if_neg (l_ne op (by omega) (by omega) (show 21 ≠ 12 by omega)), if_neg (l_ne op (by omega) (by omega) (show 21 ≠ 13 by omega)), if_neg (l_ne op (by omega) (by omega) (show 21 ≠ 14 by omega)), if_neg (l_ne op (by omega) (by omega) (show 21 ≠ 15 by omega)), if_neg (l_ne op (by omega) (by omega) (show 21 ≠ 16 by omega)), if_neg (l_ne op (by omega) (by omega) (show 21 ≠ 17 by omega)), if_neg (l_ne op (by omega) (by omega) (show 21 ≠ 18 by omega)), if_neg (l_ne op (by omega) (by omega) (show 21 ≠ 19 by omega)), if_neg (l_ne op (by omega) (by omega) (show 21 ≠ 20 by omega)), if_pos op, if_pos (show (am_kd h 0 = 5 ∨ am_kd h 0 = 9) ∧ ¬ (nI i + 1 < 0 ∨ L ≤ Int32.toNatClampNeg (nI i + 1)) from l_ix' J.r.1 (l_a (k := 1) rfl) (by omega) hL), if_pos J.jc.1.k1, e1, x_bI, if_pos (show (am_kd h1 0 = 5 ∨ am_kd h1 0 = 9) ∧ ¬ (nI i + 1 < 0 ∨ am_ln h1 0 ≤ Int32.toNatClampNeg (nI i + 1)) from l_ix r1.1 r1.2.1 (l_a (k := 1) rfl) (by omega) hL), if_pos (show am_kd h1 20 = 4 from (J.jm.sm sm).1.1), r1.2.2, e2, x_bI, if_pos rfl]
  exact ⟨h2, _, rfl, J.step f1 I1 C1 f2 I2 X2 (allwf_restore J.W ((am_I h 0 (Int32.toNatClampNeg (nI i + (1 : Int32))))))⟩
theorem l_skip (J : lI L xs h A n) (hi : i + 5 ≤ L) (hL : L ≤ 2560) (op : ∀ c, c < 22 → ¬ am_I h 0 (Int32.toNatClampNeg (nI i)) &&& 31 = nI c) : am_ev 165 18 [.ref 0, .ref 1, .ref 20, .int (nI i)] [] h = am_ev 165 18 [.ref 0, .ref 1, .ref 20, .int (nI i + 5)] [] h := by
  rw [am_b165_18, if_pos (show 5 ≤ am_kd h 0 ∧ am_kd h 0 ≤ 9 by rw [J.r.1]; omega), J.r.2.1, if_neg (show ¬ Int32.ofNat L - 5 < nI i by rw [l_end hL (by omega)]; omega), if_pos (show (am_kd h 0 = 5 ∨ am_kd h 0 = 9) ∧ ¬ (nI i < 0 ∨ L ≤ Int32.toNatClampNeg (nI i)) from l_ix' J.r.1 rfl (by omega) hL), if_neg (op 0 (by omega)), if_neg (op 1 (by omega)), if_neg (op 2 (by omega)), if_neg (op 3 (by omega)), if_neg (op 4 (by omega)), if_neg (op 5 (by omega)), if_neg (op 6 (by omega)), if_neg (op 7 (by omega)), if_neg (op 8 (by omega)), if_neg (op 9 (by omega)), if_neg (op 10 (by omega)), if_neg (op 11 (by omega)), if_neg (op 12 (by omega)), if_neg (op 13 (by omega)), if_neg (op 14 (by omega)), if_neg (op 15 (by omega)), if_neg (op 16 (by omega)), if_neg (op 17 (by omega)), if_neg (op 18 (by omega)), if_neg (op 19 (by omega)), if_neg (op 20 (by omega)), if_neg (op 21 (by omega))]
theorem l_one (J : lI L xs h A n) (hi : i + 5 ≤ L) (hL : L ≤ 2560) : ∃ h2 A', am_ev 165 18 [.ref 0, .ref 1, .ref 20, .int (nI i)] [] h = am_ev 165 18 [.ref 0, .ref 1, .ref 20, .int (nI (i + 5))] [] h2 ∧ lI L xs h2 A' (n + 1) := by
  have e5 : nI i + (5 : Int32) = nI (i + 5) := l_a rfl
  rw [← e5]
  by_cases o0 : am_I h 0 (Int32.toNatClampNeg (nI i)) &&& 31 = nI 0
  · exact l_c0 J hi hL o0
  by_cases o1 : am_I h 0 (Int32.toNatClampNeg (nI i)) &&& 31 = nI 1
  · exact l_c1 J hi hL o1
  by_cases o2 : am_I h 0 (Int32.toNatClampNeg (nI i)) &&& 31 = nI 2
  · exact l_c2 J hi hL o2
  by_cases o3 : am_I h 0 (Int32.toNatClampNeg (nI i)) &&& 31 = nI 3
  · exact l_c3 J hi hL o3
  by_cases o4 : am_I h 0 (Int32.toNatClampNeg (nI i)) &&& 31 = nI 4
  · exact l_c4 J hi hL o4
  by_cases o5 : am_I h 0 (Int32.toNatClampNeg (nI i)) &&& 31 = nI 5
  · exact l_c5 J hi hL o5
  by_cases o6 : am_I h 0 (Int32.toNatClampNeg (nI i)) &&& 31 = nI 6
  · exact l_c6 J hi hL o6
  by_cases o7 : am_I h 0 (Int32.toNatClampNeg (nI i)) &&& 31 = nI 7
  · exact l_c7 J hi hL o7
  by_cases o8 : am_I h 0 (Int32.toNatClampNeg (nI i)) &&& 31 = nI 8
  · exact l_c8 J hi hL o8
  by_cases o9 : am_I h 0 (Int32.toNatClampNeg (nI i)) &&& 31 = nI 9
  · exact l_c9 J hi hL o9
  by_cases o10 : am_I h 0 (Int32.toNatClampNeg (nI i)) &&& 31 = nI 10
  · exact l_c10 J hi hL o10
  by_cases o11 : am_I h 0 (Int32.toNatClampNeg (nI i)) &&& 31 = nI 11
  · exact l_c11 J hi hL o11
  by_cases o12 : am_I h 0 (Int32.toNatClampNeg (nI i)) &&& 31 = nI 12
  · exact l_c12 J hi hL o12
  by_cases o13 : am_I h 0 (Int32.toNatClampNeg (nI i)) &&& 31 = nI 13
  · exact l_c13 J hi hL o13
  by_cases o14 : am_I h 0 (Int32.toNatClampNeg (nI i)) &&& 31 = nI 14
  · exact l_c14 J hi hL o14
  by_cases o15 : am_I h 0 (Int32.toNatClampNeg (nI i)) &&& 31 = nI 15
  · exact l_c15 J hi hL o15
  by_cases o16 : am_I h 0 (Int32.toNatClampNeg (nI i)) &&& 31 = nI 16
  · exact l_c16 J hi hL o16
  by_cases o17 : am_I h 0 (Int32.toNatClampNeg (nI i)) &&& 31 = nI 17
  · exact l_c17 J hi hL o17
  by_cases o18 : am_I h 0 (Int32.toNatClampNeg (nI i)) &&& 31 = nI 18
  · exact l_c18 J hi hL o18
  by_cases o19 : am_I h 0 (Int32.toNatClampNeg (nI i)) &&& 31 = nI 19
  · exact l_c19 J hi hL o19
  by_cases o20 : am_I h 0 (Int32.toNatClampNeg (nI i)) &&& 31 = nI 20
  · exact l_c20 J hi hL o20
  by_cases o21 : am_I h 0 (Int32.toNatClampNeg (nI i)) &&& 31 = nI 21
  · exact l_c21 J hi hL o21
  refine ⟨h, A, l_skip J hi hL (fun c hc => ?_), J.1, J.2.1, J.2.2.1, J.2.2.2.1, J.2.2.2.2.1, J.2.2.2.2.2.1, by have := J.2.2.2.2.2.2.1; omega, by have := J.2.2.2.2.2.2.2; omega⟩
  match c, hc with
  | 0, _ => exact o0
  | 1, _ => exact o1
  | 2, _ => exact o2
  | 3, _ => exact o3
  | 4, _ => exact o4
  | 5, _ => exact o5
  | 6, _ => exact o6
  | 7, _ => exact o7
  | 8, _ => exact o8
  | 9, _ => exact o9
  | 10, _ => exact o10
  | 11, _ => exact o11
  | 12, _ => exact o12
  | 13, _ => exact o13
  | 14, _ => exact o14
  | 15, _ => exact o15
  | 16, _ => exact o16
  | 17, _ => exact o17
  | 18, _ => exact o18
  | 19, _ => exact o19
  | 20, _ => exact o20
  | 21, _ => exact o21
  | c + 22, hc => exact absurd hc (by omega)
theorem l_loop (hL : L ≤ 2560) : ∀ (d n : Nat) (h : AH) (A : QA), L < 5 * n + 5 * (d + 1) → 5 * n ≤ L → lI L xs h A n → ∃ F, am_ev 165 18 [.ref 0, .ref 1, .ref 20, .int (nI (5 * n))] [] h = some (some (.int 1), F) ∧ F.1.length ≤ 34 + 4 * 512 ∧ sm_sz F ≤ 4000 + L + 29 * 512 := by
  intro d
  induction d with
  | zero =>
    intro n h A h1 h2 J
    refine ⟨h, ?_, by have := J.2.2.2.2.2.2.1; omega, by have := J.2.2.2.2.2.2.2; omega⟩
    rw [am_b165_18, if_pos (show 5 ≤ am_kd h 0 ∧ am_kd h 0 ≤ 9 by rw [J.r.1]; omega), J.r.2.1, if_pos (show Int32.ofNat L - 5 < nI (5 * n) by rw [l_end hL (by omega)]; omega)]
  | succ d ih =>
    intro n h A h1 h2 J
    by_cases e : 5 * n + 5 ≤ L
    · obtain ⟨h3, A', e3, J3⟩ := l_one J e hL
      obtain ⟨F, eF, r⟩ := ih (n + 1) h3 A' (by omega) (by omega) J3
      exact ⟨F, e3.trans eF, r⟩
    · refine ⟨h, ?_, by have := J.2.2.2.2.2.2.1; omega, by have := J.2.2.2.2.2.2.2; omega⟩
      rw [am_b165_18, if_pos (show 5 ≤ am_kd h 0 ∧ am_kd h 0 ≤ 9 by rw [J.r.1]; omega), J.r.2.1, if_pos (show Int32.ofNat L - 5 < nI (5 * n) by rw [l_end hL (by omega)]; omega)]
end law
theorem l_law : am_Law := by
  intro L xs hL
  obtain ⟨h, e, t, x0, I, C, M, X⟩ := l_start (L := L) (xs := xs)
  have W : allwf q_A0 := ⟨q_new_wf (Or.inl rfl), by show 0 ≤ 6; omega, fun i hi => absurd hi (Nat.not_lt_zero i), fun i s hi e => by cases e⟩
  have J : lI L xs h q_A0 0 := ⟨I, C, M, X, W, ⟨by unfold am_kd; rw [t]; rfl, by unfold am_ln; rw [t]; rfl, x0⟩, by rw [t]; exact n_le rfl, by unfold sm_sz; rw [t]; simp [ckL4]; omega⟩
  obtain ⟨F, eF, r1, r2⟩ := l_loop hL 512 0 h q_A0 (by omega) (by omega) J
  exact ⟨F, e.trans eF, by omega, by omega⟩
