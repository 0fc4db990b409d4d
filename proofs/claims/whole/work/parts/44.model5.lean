/-! ===== the Model: what it holds, as a value; the calls that change the state ===== -/
/-- a state; how many changes, and the states before them; saved states; the pad -/
abbrev QA : Type := QS × (Nat × (Nat → QS)) × (Nat → Option QS) × (Nat × (Nat → Int32))
def q_g (s : QS) (p k : Nat) : Int32 := s.2.2.1 (6 * p + k)
def mSl (h : AH) (i : Nat) : Option QS → Prop
  | none => am_I h 24 i = 0
  | some s => am_I h 24 i = nI 1 ∧ hV (fun k => am_I h 23 (26 * i + k)) s
def mI (h : AH) (A : QA) : Prop := mL h ∧ hV (am_I h 21) A.1 ∧ (A.1.1 = 2 ∨ A.1.1 = 3) ∧ (am_I h 20 2 = nI A.2.1.1 ∧ A.2.1.1 ≤ 6 ∧ ∀ i, i < A.2.1.1 → hV (fun k => am_I h 22 (26 * i + k)) (A.2.1.2 i)) ∧ (∀ i, i < 2 → mSl h i (A.2.2.1 i)) ∧ am_I h 20 17 = nI A.2.2.2.1 ∧ A.2.2.2.1 ≤ 60 ∧ ∀ k, k < A.2.2.2.1 → am_I h 31 k = A.2.2.2.2 k
/-- the extreme dice that the Model holds are those of a game -/
def mX (h : AH) (c : Nat) (g : Nat → Nat → Int32) : Prop := ∃ E, z_list c g E ∧ am_I h 20 10 = nI E.1 ∧ (∀ i, i < E.1 → ∀ k, k < 6 → am_J h 25 (6 * i + k) = E.2 i k) ∧ ∀ i, i < E.1 → am_J h 26 i = j_sum 6 (E.2 i)
def mE (h : AH) (s : QS) : Prop := am_I h 20 11 = 0 ∨ am_I h 20 11 = nI 1 ∧ mX h s.1 (q_g s)
def mfr (h h1 : AH) : Prop := am_fr h h1 (fun b => 20 ≤ b ∧ b < 34)
/-- what a run leaves as it was of the extreme dice -/
def mxk (h h1 : AH) : Prop := am_I h1 20 10 = am_I h 20 10 ∧ am_I h1 20 11 = am_I h 20 11 ∧ am_J h1 25 = am_J h 25 ∧ am_J h1 26 = am_J h 26
theorem mX.kp {h h1 : AH} {c : Nat} {g : Nat → Nat → Int32} (x : mX h c g) (k : mxk h h1) : mX h1 c g := by
  obtain ⟨E, x1, x2, x3, x4⟩ := x
  exact ⟨E, x1, k.1.trans x2, fun i hi j hj => by rw [k.2.2.1]; exact x3 i hi j hj, fun i hi => by rw [k.2.2.2]; exact x4 i hi⟩
theorem mE.kp {h h1 : AH} {s s1 : QS} (x : mE h s) (k : mxk h h1) (e1 : s1.1 = s.1) (e2 : s1.2.2.1 = s.2.2.1) : mE h1 s1 := by
  rcases x with x | ⟨x, y⟩
  · exact Or.inl (k.2.1.trans x)
  · refine Or.inr ⟨k.2.1.trans x, ?_⟩
    have : q_g s1 = q_g s := by funext p j; unfold q_g; rw [e2]
    rw [e1, this]
    exact y.kp k
theorem mSl.cp {h h1 : AH} {i : Nat} {o : Option QS} (x : mSl h i o) (e3 : am_I h1 23 = am_I h 23) (e4 : am_I h1 24 = am_I h 24) : mSl h1 i o := by
  cases o with
  | none => unfold mSl at x ⊢; rw [e4]; exact x
  | some s => unfold mSl at x ⊢; rw [e3, e4]; exact x
theorem mI.c3 {h : AH} {A : QA} (I : mI h A) : A.1.1 = 2 ∨ A.1.1 = 3 := I.2.2.1
theorem mI.c {h : AH} {A : QA} (I : mI h A) : am_I h 21 0 = nI A.1.1 := I.2.1.1
theorem mI.G {h : AH} {A : QA} (I : mI h A) {p k : Nat} (hp : p < 2) (hk : k < 6) : mG h p k = q_g A.1 p k := by
  unfold mG q_g
  rw [show 2 + 6 * p + k = 2 + (6 * p + k) by omega]
  exact I.2.1.2.2.1 _ (by omega)
/-- the row of numbers is another one -/
theorem mI.row {h h1 : AH} {A : QA} {F : Nat → Int32} {s : QS} (I : mI h A) (e1 : h1.1 = h.1) (e2 : am_R h1 = am_R h) (eF : am_I h1 21 = F) (v : hV F s) (h3 : s.1 = 2 ∨ s.1 = 3) (e22 : am_I h1 22 = am_I h 22) (e23 : am_I h1 23 = am_I h 23) (e24 : am_I h1 24 = am_I h 24) (e31 : am_I h1 31 = am_I h 31) (e2' : am_I h1 20 2 = am_I h 20 2) (e17 : am_I h1 20 17 = am_I h 20 17) : mI h1 (s, A.2) := by
  obtain ⟨i1, i2, i3, i4, i5, i6, i7, i8⟩ := I
  exact ⟨i1.of e1 e2, by rw [eF]; exact v, h3, ⟨e2'.trans i4.1, i4.2.1, by rw [e22]; exact i4.2.2⟩, fun i hi => (i5 i hi).cp e23 e24, e17.trans i6, i7, by rw [e31]; exact i8⟩
theorem mI.K {h : AH} {A : QA} (I : mI h A) {c q : Nat} : mI (mK h c q) A := I.row rfl rfl (mK_I (by omega)) I.2.1 I.c3 (mK_I (by omega)) (mK_I (by omega)) (mK_I (by omega)) (mK_I (by omega)) rfl rfl
theorem mI.Ks {h : AH} {A : QA} (I : mI h A) {c j : Nat} : mI (mKs h c j) A := by unfold mKs; split; exact I; exact I.K
theorem mfr_K {h : AH} {c q : Nat} : mfr h (mK h c q) := ((am_sI_fr (by omega)).tr (am_sI_fr (by omega))).tr (am_sI_fr (by omega))
theorem mfr_Ks {h : AH} {c j : Nat} : mfr h (mKs h c j) := by unfold mKs; split; exact am_fr.rf; exact mfr_K
theorem mxk_K {h : AH} {c q : Nat} : mxk h (mK h c q) := ⟨rfl, rfl, rfl, rfl⟩
theorem mxk_Ks {h : AH} {c j : Nat} : mxk h (mKs h c j) := by unfold mKs; split; exact ⟨rfl, rfl, rfl, rfl⟩; exact mxk_K
theorem mxk.rf {h : AH} : mxk h h := ⟨rfl, rfl, rfl, rfl⟩
theorem mxk.tr {h h1 h2 : AH} (a : mxk h h1) (b : mxk h1 h2) : mxk h h2 := ⟨b.1.trans a.1, b.2.1.trans a.2.1, b.2.2.1.trans a.2.2.1, b.2.2.2.trans a.2.2.2⟩
def q_rec (A : QA) : Nat × (Nat → QS) := (q_recN A.2.1.1, q_recH A.2.1.1 A.2.1.2 A.1)
theorem q_recN_le {n : Nat} (h : n ≤ 6) : q_recN n ≤ 6 := by unfold q_recN; split <;> omega
theorem mI.rec {h : AH} {A : QA} (I : mI h A) : ∃ h1, am_ev 97 0 [.ref 20, am_ph] [] h = some (none, h1) ∧ mI h1 (A.1, q_rec A, A.2.2) ∧ mfr h h1 ∧ mxk h h1 ∧ ∀ b, b ≠ 20 → b ≠ 22 → am_I h1 b = am_I h b := by
  obtain ⟨i1, i2, i3, i4, i5, i6, i7, i8⟩ := I
  obtain ⟨F, e, f⟩ := m_record i1 i4.2.1 i4.1 i2 i4.2.2
  refine ⟨_, e, ⟨i1.of rfl rfl, i2, i3, ⟨?_, q_recN_le i4.2.1, f⟩, fun i hi => (i5 i hi).cp rfl rfl, i6, i7, i8⟩, ?_, ⟨rfl, rfl, rfl, rfl⟩, fun b b1 b2 => by rw [am_sI_ne b1, am_rI_ne b2]⟩
  · rfl
  · exact am_fr.tr (am_fr_rI (by omega)) (am_sI_fr (by omega))
theorem q_nI {x : Int32} (h : 0 ≤ x.toInt) : ∃ j : Nat, x = nI j ∧ (j : Int) = x.toInt ∧ j < 2147483648 := by
  have h1 : ¬ x < 0 := by
    rw [Int32.lt_iff_toInt_lt]
    exact fun z => absurd z (by show ¬ x.toInt < 0; omega)
  obtain ⟨j, hj, e⟩ := nI_of h1
  exact ⟨j, e, by rw [e, nI_toInt hj], hj⟩
theorem m_in {h : AH} {x : Int32} {a b : Int64} {p q : Int} (ha : a.toInt = p) (hb : b.toInt = q) : am_ev 96 0 [.long x.toInt64, am_ph, .long a, am_ph, .long b, am_ph] [] h = some (some (.int (if p ≤ x.toInt ∧ x.toInt ≤ q then 1 else 0)), h) := by
  rw [am_b96_0]
  simp only [lg_cmp_lt, lg_cmp_gt, Int64.lt_iff_toInt_lt, Int32.toInt_toInt64, ha, hb]
  by_cases h1 : x.toInt < p
  · rw [if_pos h1, if_neg (by omega)]
  · rw [if_neg h1]
    by_cases h2 : q < x.toInt
    · rw [if_pos h2, if_neg (by omega)]
    · rw [if_neg h2, if_pos (by omega)]
abbrev q_cellok (c : Nat) (r q : Int32) : Prop := (0 ≤ r.toInt ∧ r.toInt ≤ 1) ∧ 0 ≤ q.toInt ∧ q.toInt ≤ (c : Int) - 1
theorem m_isCell {h : AH} (m : mL h) {c : Nat} (hc : am_I h 21 0 = nI c) (h3 : c = 2 ∨ c = 3) (r q : Int32) : am_ev 103 0 [.ref 20, .int r, .int q] [] h = some (some (.int (if q_cellok c r q then 1 else 0)), h) := by
  rw [am_b103_0, m_in (p := 0) (q := 1) rfl rfl]
  simp (disch := omega) only [am_oe, am_bI, am_bV, am_bJ, am_bA, if_true, if_false, x_kI, x_lI, x_RI, x_kJ, x_lJ, x_RJ, x_kr, x_lr, x_Rr, x_krJ, x_lrJ, x_RrJ, x_kf, x_lf, x_Rf, x_ko, x_lo, x_Ro, x_I, x_J, x_IJ, x_JI, x_lt, x_eq, x_eq0, x_neg, x_lt0, x_cl, x_cl0, x_sub, nI_add, pk_mul, nI_0, x_div, or_false, false_or, or_true, true_or, and_true, true_and, not_false_eq_true, and_false, false_and, not_true_eq_false, Nat.reduceEqDiff, reduceCtorEq, Nat.reduceSub, Nat.reduceDiv, Nat.reduceMul, Nat.reduceAdd, Nat.reduceLT, x_II, Nat.zero_div, Nat.zero_mul, Nat.sub_zero, Nat.mul_one, Nat.div_one, x_s0, Int32.zero_add, x_c1, x_c2, x_c3, x_c4, x_c5, x_c6, x_c8, x_c12, x_c14, x_c20, x_c26, x_c52, x_c60, x_c100, x_c128, x_c130, m.k, m.r0, m.r1, m.r3, m.r4, m.r8, m.r9, m.r12, m.r13, m.r14, m.r15, m.r16, m.r18, m.r19, m.k0, m.k1, m.k3, m.k4, m.k8, m.k9, m.k12, m.k13, m.k14, m.k15, m.k16, m.k18, m.k19, m.l0, m.l1, m.l3, m.l4, m.l8, m.l9, m.l12, m.l13, m.l14, m.l15, m.l16, m.l18, m.l19, m_columns m, hc]
  have e : (Int32.toInt64 (nI (c - 1))).toInt = (c : Int) - 1 := by
    rw [Int32.toInt_toInt64, nI_toInt (by omega)]
    omega
  by_cases h1 : 0 ≤ r.toInt ∧ r.toInt ≤ 1
  · rw [if_pos h1, if_neg (by decide), m_in (p := 0) (q := (c : Int) - 1) rfl e]
    simp (disch := omega) only [am_oe, am_bI, am_bV, am_bJ, am_bA, if_true, if_false, x_kI, x_lI, x_RI, x_kJ, x_lJ, x_RJ, x_kr, x_lr, x_Rr, x_krJ, x_lrJ, x_RrJ, x_kf, x_lf, x_Rf, x_ko, x_lo, x_Ro, x_I, x_J, x_IJ, x_JI, x_lt, x_eq, x_eq0, x_neg, x_lt0, x_cl, x_cl0, x_sub, nI_add, pk_mul, nI_0, x_div, or_false, false_or, or_true, true_or, and_true, true_and, not_false_eq_true, and_false, false_and, not_true_eq_false, Nat.reduceEqDiff, reduceCtorEq, Nat.reduceSub, Nat.reduceDiv, Nat.reduceMul, Nat.reduceAdd, Nat.reduceLT, x_II, Nat.zero_div, Nat.zero_mul, Nat.sub_zero, Nat.mul_one, Nat.div_one, x_s0, Int32.zero_add, x_c1, x_c2, x_c3, x_c4, x_c5, x_c6, x_c8, x_c12, x_c14, x_c20, x_c26, x_c52, x_c60, x_c100, x_c128, x_c130]
    by_cases h2 : 0 ≤ q.toInt ∧ q.toInt ≤ (c : Int) - 1
    · rw [if_pos h2, if_neg (by decide), if_pos ⟨h1, h2⟩]
    · rw [if_neg h2, if_pos rfl, if_neg (fun z => h2 z.2)]
  · rw [if_neg h1, if_pos rfl, if_neg (fun z => h1 z.1)]
theorem hV.g {f : Nat → Int32} {s : QS} (v : hV f s) {k : Nat} (hk : k < 12) (x : Int32) : hV (am_ud f (2 + k) x) (s.1, s.2.1, am_ud s.2.2.1 k x, s.2.2.2.1, s.2.2.2.2) := by
  obtain ⟨v1, v2, v3, v4, v5⟩ := v
  refine ⟨by rw [am_ud_ne (by omega)]; exact v1, by rw [am_ud_ne (by omega)]; exact v2, fun j hj => ?_, fun j hj => by rw [am_ud_ne (by omega)]; exact v4 j hj, fun j hj => by rw [am_ud_ne (by omega)]; exact v5 j hj⟩
  unfold am_ud
  dsimp only
  by_cases e : j = k
  · rw [if_pos (by omega), if_pos e]
  · rw [if_neg (by omega), if_neg e]
    exact v3 j hj
theorem hV.w {f : Nat → Int32} {s : QS} (v : hV f s) {k : Nat} (hk : k < 6) (x : Int32) : hV (am_ud f (14 + k) x) (s.1, s.2.1, s.2.2.1, am_ud s.2.2.2.1 k x, s.2.2.2.2) := by
  obtain ⟨v1, v2, v3, v4, v5⟩ := v
  refine ⟨by rw [am_ud_ne (by omega)]; exact v1, by rw [am_ud_ne (by omega)]; exact v2, fun j hj => by rw [am_ud_ne (by omega)]; exact v3 j hj, fun j hj => ?_, fun j hj => by rw [am_ud_ne (by omega)]; exact v5 j hj⟩
  unfold am_ud
  dsimp only
  by_cases e : j = k
  · rw [if_pos (by omega), if_pos e]
  · rw [if_neg (by omega), if_neg e]
    exact v4 j hj
theorem hV.f {f : Nat → Int32} {s : QS} (v : hV f s) {k : Nat} (hk : k < 6) (x : Int32) : hV (am_ud f (20 + k) x) (s.1, s.2.1, s.2.2.1, s.2.2.2.1, am_ud s.2.2.2.2 k x) := by
  obtain ⟨v1, v2, v3, v4, v5⟩ := v
  refine ⟨by rw [am_ud_ne (by omega)]; exact v1, by rw [am_ud_ne (by omega)]; exact v2, fun j hj => by rw [am_ud_ne (by omega)]; exact v3 j hj, fun j hj => by rw [am_ud_ne (by omega)]; exact v4 j hj, fun j hj => ?_⟩
  unfold am_ud
  dsimp only
  by_cases e : j = k
  · rw [if_pos (by omega), if_pos e]
  · rw [if_neg (by omega), if_neg e]
    exact v5 j hj
theorem hV.t {f : Nat → Int32} {s : QS} (v : hV f s) (x : Int32) : hV (am_ud f 1 x) (s.1, x, s.2.2.1, s.2.2.2.1, s.2.2.2.2) := by
  obtain ⟨v1, v2, v3, v4, v5⟩ := v
  exact ⟨by rw [am_ud_ne (by omega)]; exact v1, am_ud_eq, fun j hj => by rw [am_ud_ne (by omega)]; exact v3 j hj, fun j hj => by rw [am_ud_ne (by omega)]; exact v4 j hj, fun j hj => by rw [am_ud_ne (by omega)]; exact v5 j hj⟩
