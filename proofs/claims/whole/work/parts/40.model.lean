/-! ===== the Model: where it lies, and a way to walk its blocks ===== -/
/-- the Model lies at 20, its rows behind it -/
def mL (h : AH) : Prop := (am_kd h 20 = 4) ∧ (am_R h 20 0 = some 21) ∧ (am_R h 20 1 = some 22) ∧ (am_R h 20 3 = some 23) ∧ (am_R h 20 4 = some 24) ∧ (am_R h 20 8 = some 25) ∧ (am_R h 20 9 = some 26) ∧ (am_R h 20 12 = some 27) ∧ (am_R h 20 13 = some 28) ∧ (am_R h 20 14 = some 29) ∧ (am_R h 20 15 = some 30) ∧ (am_R h 20 16 = some 31) ∧ (am_R h 20 18 = some 32) ∧ (am_R h 20 19 = some 33) ∧ (am_kd h 21 = 5) ∧ (am_kd h 22 = 5) ∧ (am_kd h 23 = 5) ∧ (am_kd h 24 = 5) ∧ (am_kd h 25 = 6) ∧ (am_kd h 26 = 6) ∧ (am_kd h 27 = 5) ∧ (am_kd h 28 = 6) ∧ (am_kd h 29 = 5) ∧ (am_kd h 30 = 6) ∧ (am_kd h 31 = 5) ∧ (am_kd h 32 = 5) ∧ (am_kd h 33 = 5) ∧ (am_ln h 21 = 26) ∧ (am_ln h 22 = 156) ∧ (am_ln h 23 = 52) ∧ (am_ln h 24 = 2) ∧ (am_ln h 25 = 768) ∧ (am_ln h 26 = 128) ∧ (am_ln h 27 = 5) ∧ (am_ln h 28 = 30) ∧ (am_ln h 29 = 5) ∧ (am_ln h 30 = 6) ∧ (am_ln h 31 = 60) ∧ (am_ln h 32 = 12) ∧ (am_ln h 33 = 2)
theorem mL.k {h : AH} (m : mL h) : am_kd h 20 = 4 := m.1
theorem mL.r0 {h : AH} (m : mL h) : am_R h 20 0 = some 21 := m.2.1
theorem mL.r1 {h : AH} (m : mL h) : am_R h 20 1 = some 22 := m.2.2.1
theorem mL.r3 {h : AH} (m : mL h) : am_R h 20 3 = some 23 := m.2.2.2.1
theorem mL.r4 {h : AH} (m : mL h) : am_R h 20 4 = some 24 := m.2.2.2.2.1
theorem mL.r8 {h : AH} (m : mL h) : am_R h 20 8 = some 25 := m.2.2.2.2.2.1
theorem mL.r9 {h : AH} (m : mL h) : am_R h 20 9 = some 26 := m.2.2.2.2.2.2.1
theorem mL.r12 {h : AH} (m : mL h) : am_R h 20 12 = some 27 := m.2.2.2.2.2.2.2.1
theorem mL.r13 {h : AH} (m : mL h) : am_R h 20 13 = some 28 := m.2.2.2.2.2.2.2.2.1
theorem mL.r14 {h : AH} (m : mL h) : am_R h 20 14 = some 29 := m.2.2.2.2.2.2.2.2.2.1
theorem mL.r15 {h : AH} (m : mL h) : am_R h 20 15 = some 30 := m.2.2.2.2.2.2.2.2.2.2.1
theorem mL.r16 {h : AH} (m : mL h) : am_R h 20 16 = some 31 := m.2.2.2.2.2.2.2.2.2.2.2.1
theorem mL.r18 {h : AH} (m : mL h) : am_R h 20 18 = some 32 := m.2.2.2.2.2.2.2.2.2.2.2.2.1
theorem mL.r19 {h : AH} (m : mL h) : am_R h 20 19 = some 33 := m.2.2.2.2.2.2.2.2.2.2.2.2.2.1
theorem mL.k0 {h : AH} (m : mL h) : am_kd h 21 = 5 := m.2.2.2.2.2.2.2.2.2.2.2.2.2.2.1
theorem mL.k1 {h : AH} (m : mL h) : am_kd h 22 = 5 := m.2.2.2.2.2.2.2.2.2.2.2.2.2.2.2.1
theorem mL.k3 {h : AH} (m : mL h) : am_kd h 23 = 5 := m.2.2.2.2.2.2.2.2.2.2.2.2.2.2.2.2.1
theorem mL.k4 {h : AH} (m : mL h) : am_kd h 24 = 5 := m.2.2.2.2.2.2.2.2.2.2.2.2.2.2.2.2.2.1
theorem mL.k8 {h : AH} (m : mL h) : am_kd h 25 = 6 := m.2.2.2.2.2.2.2.2.2.2.2.2.2.2.2.2.2.2.1
theorem mL.k9 {h : AH} (m : mL h) : am_kd h 26 = 6 := m.2.2.2.2.2.2.2.2.2.2.2.2.2.2.2.2.2.2.2.1
theorem mL.k12 {h : AH} (m : mL h) : am_kd h 27 = 5 := m.2.2.2.2.2.2.2.2.2.2.2.2.2.2.2.2.2.2.2.2.1
theorem mL.k13 {h : AH} (m : mL h) : am_kd h 28 = 6 := m.2.2.2.2.2.2.2.2.2.2.2.2.2.2.2.2.2.2.2.2.2.1
theorem mL.k14 {h : AH} (m : mL h) : am_kd h 29 = 5 := m.2.2.2.2.2.2.2.2.2.2.2.2.2.2.2.2.2.2.2.2.2.2.1
theorem mL.k15 {h : AH} (m : mL h) : am_kd h 30 = 6 := m.2.2.2.2.2.2.2.2.2.2.2.2.2.2.2.2.2.2.2.2.2.2.2.1
theorem mL.k16 {h : AH} (m : mL h) : am_kd h 31 = 5 := m.2.2.2.2.2.2.2.2.2.2.2.2.2.2.2.2.2.2.2.2.2.2.2.2.1
theorem mL.k18 {h : AH} (m : mL h) : am_kd h 32 = 5 := m.2.2.2.2.2.2.2.2.2.2.2.2.2.2.2.2.2.2.2.2.2.2.2.2.2.1
theorem mL.k19 {h : AH} (m : mL h) : am_kd h 33 = 5 := m.2.2.2.2.2.2.2.2.2.2.2.2.2.2.2.2.2.2.2.2.2.2.2.2.2.2.1
theorem mL.l0 {h : AH} (m : mL h) : am_ln h 21 = 26 := m.2.2.2.2.2.2.2.2.2.2.2.2.2.2.2.2.2.2.2.2.2.2.2.2.2.2.2.1
theorem mL.l1 {h : AH} (m : mL h) : am_ln h 22 = 156 := m.2.2.2.2.2.2.2.2.2.2.2.2.2.2.2.2.2.2.2.2.2.2.2.2.2.2.2.2.1
theorem mL.l3 {h : AH} (m : mL h) : am_ln h 23 = 52 := m.2.2.2.2.2.2.2.2.2.2.2.2.2.2.2.2.2.2.2.2.2.2.2.2.2.2.2.2.2.1
theorem mL.l4 {h : AH} (m : mL h) : am_ln h 24 = 2 := m.2.2.2.2.2.2.2.2.2.2.2.2.2.2.2.2.2.2.2.2.2.2.2.2.2.2.2.2.2.2.1
theorem mL.l8 {h : AH} (m : mL h) : am_ln h 25 = 768 := m.2.2.2.2.2.2.2.2.2.2.2.2.2.2.2.2.2.2.2.2.2.2.2.2.2.2.2.2.2.2.2.1
theorem mL.l9 {h : AH} (m : mL h) : am_ln h 26 = 128 := m.2.2.2.2.2.2.2.2.2.2.2.2.2.2.2.2.2.2.2.2.2.2.2.2.2.2.2.2.2.2.2.2.1
theorem mL.l12 {h : AH} (m : mL h) : am_ln h 27 = 5 := m.2.2.2.2.2.2.2.2.2.2.2.2.2.2.2.2.2.2.2.2.2.2.2.2.2.2.2.2.2.2.2.2.2.1
theorem mL.l13 {h : AH} (m : mL h) : am_ln h 28 = 30 := m.2.2.2.2.2.2.2.2.2.2.2.2.2.2.2.2.2.2.2.2.2.2.2.2.2.2.2.2.2.2.2.2.2.2.1
theorem mL.l14 {h : AH} (m : mL h) : am_ln h 29 = 5 := m.2.2.2.2.2.2.2.2.2.2.2.2.2.2.2.2.2.2.2.2.2.2.2.2.2.2.2.2.2.2.2.2.2.2.2.1
theorem mL.l15 {h : AH} (m : mL h) : am_ln h 30 = 6 := m.2.2.2.2.2.2.2.2.2.2.2.2.2.2.2.2.2.2.2.2.2.2.2.2.2.2.2.2.2.2.2.2.2.2.2.2.1
theorem mL.l16 {h : AH} (m : mL h) : am_ln h 31 = 60 := m.2.2.2.2.2.2.2.2.2.2.2.2.2.2.2.2.2.2.2.2.2.2.2.2.2.2.2.2.2.2.2.2.2.2.2.2.2.1
theorem mL.l18 {h : AH} (m : mL h) : am_ln h 32 = 12 := m.2.2.2.2.2.2.2.2.2.2.2.2.2.2.2.2.2.2.2.2.2.2.2.2.2.2.2.2.2.2.2.2.2.2.2.2.2.2.1
theorem mL.l19 {h : AH} (m : mL h) : am_ln h 33 = 2 := m.2.2.2.2.2.2.2.2.2.2.2.2.2.2.2.2.2.2.2.2.2.2.2.2.2.2.2.2.2.2.2.2.2.2.2.2.2.2.2
theorem mL.of {h h1 : AH} (m : mL h) (e1 : h1.1 = h.1) (e2 : am_R h1 = am_R h) : mL h1 := by
  have ek : ∀ b, am_kd h1 b = am_kd h b := fun b => by unfold am_kd; rw [e1]
  have el : ∀ b, am_ln h1 b = am_ln h b := fun b => by unfold am_ln; rw [e1]
  unfold mL
  simp only [ek, el, e2]
  exact m
theorem mL.sI {h : AH} (m : mL h) {b k : Nat} {v : Int32} : mL (am_sI h b k v) := m.of rfl rfl
theorem mL.sJ {h : AH} (m : mL h) {b k : Nat} {v : Int64} : mL (am_sJ h b k v) := m.of rfl rfl
theorem mL.rI {h : AH} (m : mL h) {b : Nat} {f : Nat → Int32} : mL (am_rI h b f) := m.of rfl rfl
theorem mL.rJ {h : AH} (m : mL h) {b : Nat} {f : Nat → Int64} : mL (am_rJ h b f) := m.of rfl rfl
theorem mL.fl {h : AH} (m : mL h) {b k : Nat} {f : Nat → Int32} : mL (am_fl h b k f) := m.of rfl rfl
theorem x_lt {a b : Nat} (ha : a < 2147483648) (hb : b < 2147483648) : (nI a < nI b) = (a < b) := q_lt ha hb
theorem x_eq {a b : Nat} (ha : a < 2147483648) (hb : b < 2147483648) : (nI a = nI b) = (a = b) := q_eq ha hb
theorem x_eq0 {a : Nat} (ha : a < 2147483648) : (nI a = 0) = (a = 0) := q_eq (b := 0) ha (by omega)
theorem x_neg {a : Nat} (ha : a < 2147483648) : (nI a < 0) = False := q_neg ha
theorem x_neg' {a : Nat} (ha : a < 2147483648) : (nI a < nI 0) = False := q_neg ha
theorem x_cl {a : Nat} (ha : a < 2147483648) : (nI a).toNatClampNeg = a := nI_clamp ha
theorem x_div {a b : Nat} (ha : a < 2147483648) (hb : b < 2147483648) : nI a / nI b = nI (a / b) := by
  apply Int32.toInt_inj.mp
  have hq := Nat.div_le_self a b
  rw [Int32.toInt_div, nI_toInt ha, nI_toInt hb, nI_toInt (by omega), show Int.tdiv (a : Int) (b : Int) = ((a / b : Nat) : Int) from (Int.ofNat_tdiv a b).symm]
  generalize a / b = q at hq ⊢
  rw [Int.bmod_def, show (q : Int) % ((2 ^ 32 : Nat) : Int) = (q : Int) from Int.emod_eq_of_lt (by omega) (by omega), if_pos (by omega)]
theorem x_sub {a b : Nat} (h : b ≤ a) : nI a - nI b = nI (a - b) := pk_sub h
/-- n numbers of a row behind the o-th become those of F -/
def am_fo (h : AH) (w o n : Nat) (F : Nat → Int32) : AH := am_rI h w (fun k => if o ≤ k ∧ k < o + n then F (k - o) else am_I h w k)
theorem x_ko {h : AH} {b d o n : Nat} {f : Nat → Int32} : am_kd (am_fo h b o n f) d = am_kd h d := rfl
theorem x_lo {h : AH} {b d o n : Nat} {f : Nat → Int32} : am_ln (am_fo h b o n f) d = am_ln h d := rfl
theorem x_Ro {h : AH} {b o n : Nat} {f : Nat → Int32} : am_R (am_fo h b o n f) = am_R h := rfl
theorem mL.fo {h : AH} (m : mL h) {b o k : Nat} {f : Nat → Int32} : mL (am_fo h b o k f) := m.of rfl rfl
theorem am_fo_ne {h : AH} {w o n b : Nat} {F : Nat → Int32} (hb : b ≠ w) : am_I (am_fo h w o n F) b = am_I h b := am_ud_ne hb
theorem am_fo_I {h : AH} {w o n : Nat} {F : Nat → Int32} : am_I (am_fo h w o n F) w = fun k => if o ≤ k ∧ k < o + n then F (k - o) else am_I h w k := am_ud_eq
theorem am_fo_0 (h : AH) (w o : Nat) (F : Nat → Int32) : am_fo h w o 0 F = h := by
  unfold am_fo
  have : (fun k => if o ≤ k ∧ k < o + 0 then F (k - o) else am_I h w k) = am_I h w := by
    funext k
    rw [if_neg (by omega)]
  rw [this]
  show (h.1, am_ud h.2.1 w (h.2.1 w), h.2.2.1, h.2.2.2) = h
  rw [am_ud_id]
theorem am_fo_s (h : AH) (w o j : Nat) (F : Nat → Int32) : am_sI (am_fo h w o j F) w (o + j) (F j) = am_fo h w o (j + 1) F := by
  unfold am_fo am_sI am_rI
  dsimp only [am_I]
  rw [am_ud_ud, am_ud_eq]
  congr 2
  congr 1
  funext k
  unfold am_ud
  by_cases e : k = o + j
  · rw [if_pos e, e, if_pos (by omega), show o + j - o = j by omega]
  · rw [if_neg e]
    dsimp only
    by_cases e2 : o ≤ k ∧ k < o + j
    · rw [if_pos e2, if_pos (by omega)]
    · rw [if_neg e2, if_neg (by omega)]
theorem x_lt0 {a : Nat} (ha : a < 2147483648) : (0 < nI a) = (0 < a) := q_lt (a := 0) (by omega) ha
theorem x_cl0 : (0 : Int32).toNatClampNeg = 0 := rfl
theorem x_I {h : AH} {b k d : Nat} {v : Int32} : am_I (am_sI h b k v) d = if d = b then am_ud (am_I h b) k v else am_I h d := rfl
theorem x_s0 (x : Int32) : x - 0 = x := by simp
theorem x_II {h : AH} {b k : Nat} {v w : Int32} : am_sI (am_sI h b k v) b k w = am_sI h b k w := by
  unfold am_sI am_rI
  dsimp only [am_I]
  rw [am_ud_ud, am_ud_eq, am_ud_ud]
theorem x_J {h : AH} {b k d : Nat} {v : Int64} : am_J (am_sJ h b k v) d = if d = b then am_ud (am_J h b) k v else am_J h d := rfl
theorem x_IJ {h : AH} {b k : Nat} {v : Int64} : am_I (am_sJ h b k v) = am_I h := rfl
theorem x_JI {h : AH} {b k : Nat} {v : Int32} : am_J (am_sI h b k v) = am_J h := rfl
theorem x_kI {h : AH} {b k d : Nat} {v : Int32} : am_kd (am_sI h b k v) d = am_kd h d := rfl
theorem x_lI {h : AH} {b k d : Nat} {v : Int32} : am_ln (am_sI h b k v) d = am_ln h d := rfl
theorem x_RI {h : AH} {b k : Nat} {v : Int32} : am_R (am_sI h b k v) = am_R h := rfl
theorem x_kJ {h : AH} {b k d : Nat} {v : Int64} : am_kd (am_sJ h b k v) d = am_kd h d := rfl
theorem x_lJ {h : AH} {b k d : Nat} {v : Int64} : am_ln (am_sJ h b k v) d = am_ln h d := rfl
theorem x_RJ {h : AH} {b k : Nat} {v : Int64} : am_R (am_sJ h b k v) = am_R h := rfl
theorem x_kr {h : AH} {b d : Nat} {f : Nat → Int32} : am_kd (am_rI h b f) d = am_kd h d := rfl
theorem x_lr {h : AH} {b d : Nat} {f : Nat → Int32} : am_ln (am_rI h b f) d = am_ln h d := rfl
theorem x_Rr {h : AH} {b : Nat} {f : Nat → Int32} : am_R (am_rI h b f) = am_R h := rfl
theorem x_krJ {h : AH} {b d : Nat} {f : Nat → Int64} : am_kd (am_rJ h b f) d = am_kd h d := rfl
theorem x_lrJ {h : AH} {b d : Nat} {f : Nat → Int64} : am_ln (am_rJ h b f) d = am_ln h d := rfl
theorem x_RrJ {h : AH} {b : Nat} {f : Nat → Int64} : am_R (am_rJ h b f) = am_R h := rfl
theorem x_kf {h : AH} {b d n : Nat} {f : Nat → Int32} : am_kd (am_fl h b n f) d = am_kd h d := rfl
theorem x_lf {h : AH} {b d n : Nat} {f : Nat → Int32} : am_ln (am_fl h b n f) d = am_ln h d := rfl
theorem x_Rf {h : AH} {b n : Nat} {f : Nat → Int32} : am_R (am_fl h b n f) = am_R h := rfl
theorem x_c1 : (1 : Int32) = nI 1 := Eq.trans rfl rfl
theorem x_c2 : (2 : Int32) = nI 2 := Eq.trans rfl rfl
theorem x_c3 : (3 : Int32) = nI 3 := Eq.trans rfl rfl
theorem x_c4 : (4 : Int32) = nI 4 := Eq.trans rfl rfl
theorem x_c8 : (8 : Int32) = nI 8 := Eq.trans rfl rfl
theorem x_c12 : (12 : Int32) = nI 12 := Eq.trans rfl rfl
theorem x_c100 : (100 : Int32) = nI 100 := Eq.trans rfl rfl
theorem x_c5 : (5 : Int32) = nI 5 := Eq.trans rfl rfl
theorem x_c6 : (6 : Int32) = nI 6 := Eq.trans rfl rfl
theorem x_c14 : (14 : Int32) = nI 14 := Eq.trans rfl rfl
theorem x_c20 : (20 : Int32) = nI 20 := Eq.trans rfl rfl
theorem x_c26 : (26 : Int32) = nI 26 := Eq.trans rfl rfl
theorem x_c52 : (52 : Int32) = nI 52 := Eq.trans rfl rfl
theorem x_c60 : (60 : Int32) = nI 60 := Eq.trans rfl rfl
theorem x_c128 : (128 : Int32) = nI 128 := Eq.trans rfl rfl
theorem x_c130 : (130 : Int32) = nI 130 := Eq.trans rfl rfl
theorem x_ud {α : Type} {f : Nat → α} {k j : Nat} {v : α} : am_ud f k v j = if j = k then v else f j := rfl
section model
variable {h : AH}
theorem m_columns (m : mL h) : am_ev 98 0 [.ref 20] [] h = some (some (.int (am_I h 21 0)), h) := by
  rw [am_b98_0]
  simp (disch := omega) only [am_oe, am_bI, am_bV, am_bJ, am_bA, if_true, if_false, x_kI, x_lI, x_RI, x_kJ, x_lJ, x_RJ, x_kr, x_lr, x_Rr, x_krJ, x_lrJ, x_RrJ, x_kf, x_lf, x_Rf, x_ko, x_lo, x_Ro, x_I, x_J, x_IJ, x_JI, x_lt, x_eq, x_eq0, x_neg, x_lt0, x_cl, x_cl0, x_sub, nI_add, pk_mul, nI_0, x_div, or_false, false_or, or_true, true_or, and_true, true_and, not_false_eq_true, and_false, false_and, not_true_eq_false, Nat.reduceEqDiff, reduceCtorEq, Nat.reduceSub, Nat.reduceDiv, Nat.reduceMul, Nat.reduceAdd, Nat.reduceLT, x_II, Nat.zero_div, Nat.zero_mul, Nat.sub_zero, Nat.mul_one, Nat.div_one, x_s0, Int32.zero_add, x_c1, x_c2, x_c3, x_c4, x_c5, x_c6, x_c8, x_c12, x_c14, x_c20, x_c26, x_c52, x_c60, x_c100, x_c128, x_c130, m.k, m.r0, m.r1, m.r3, m.r4, m.r8, m.r9, m.r12, m.r13, m.r14, m.r15, m.r16, m.r18, m.r19, m.k0, m.k1, m.k3, m.k4, m.k8, m.k9, m.k12, m.k13, m.k14, m.k15, m.k16, m.k18, m.k19, m.l0, m.l1, m.l3, m.l4, m.l8, m.l9, m.l12, m.l13, m.l14, m.l15, m.l16, m.l18, m.l19]
  simp
theorem m_cells (m : mL h) {c : Nat} (hc : am_I h 21 0 = nI c) : am_ev 99 0 [.ref 20] [] h = some (some (.int (nI (2 * c))), h) := by
  rw [am_b99_0]
  simp (disch := omega) only [am_oe, am_bI, am_bV, am_bJ, am_bA, if_true, if_false, x_kI, x_lI, x_RI, x_kJ, x_lJ, x_RJ, x_kr, x_lr, x_Rr, x_krJ, x_lrJ, x_RrJ, x_kf, x_lf, x_Rf, x_ko, x_lo, x_Ro, x_I, x_J, x_IJ, x_JI, x_lt, x_eq, x_eq0, x_neg, x_lt0, x_cl, x_cl0, x_sub, nI_add, pk_mul, nI_0, x_div, or_false, false_or, or_true, true_or, and_true, true_and, not_false_eq_true, and_false, false_and, not_true_eq_false, Nat.reduceEqDiff, reduceCtorEq, Nat.reduceSub, Nat.reduceDiv, Nat.reduceMul, Nat.reduceAdd, Nat.reduceLT, x_II, Nat.zero_div, Nat.zero_mul, Nat.sub_zero, Nat.mul_one, Nat.div_one, x_s0, Int32.zero_add, x_c1, x_c2, x_c3, x_c4, x_c5, x_c6, x_c8, x_c12, x_c14, x_c20, x_c26, x_c52, x_c60, x_c100, x_c128, x_c130, m.k, m.r0, m.r1, m.r3, m.r4, m.r8, m.r9, m.r12, m.r13, m.r14, m.r15, m.r16, m.r18, m.r19, m.k0, m.k1, m.k3, m.k4, m.k8, m.k9, m.k12, m.k13, m.k14, m.k15, m.k16, m.k18, m.k19, m.l0, m.l1, m.l3, m.l4, m.l8, m.l9, m.l12, m.l13, m.l14, m.l15, m.l16, m.l18, m.l19, m_columns m, hc]
theorem m_inequalities (m : mL h) {c : Nat} (hc : am_I h 21 0 = nI c) (h3 : c = 2 ∨ c = 3) : am_ev 100 0 [.ref 20] [] h = some (some (.int (nI (q_nq c))), h) := by
  rw [am_b100_0]
  simp (disch := omega) only [am_oe, am_bI, am_bV, am_bJ, am_bA, if_true, if_false, x_kI, x_lI, x_RI, x_kJ, x_lJ, x_RJ, x_kr, x_lr, x_Rr, x_krJ, x_lrJ, x_RrJ, x_kf, x_lf, x_Rf, x_ko, x_lo, x_Ro, x_I, x_J, x_IJ, x_JI, x_lt, x_eq, x_eq0, x_neg, x_lt0, x_cl, x_cl0, x_sub, nI_add, pk_mul, nI_0, x_div, or_false, false_or, or_true, true_or, and_true, true_and, not_false_eq_true, and_false, false_and, not_true_eq_false, Nat.reduceEqDiff, reduceCtorEq, Nat.reduceSub, Nat.reduceDiv, Nat.reduceMul, Nat.reduceAdd, Nat.reduceLT, x_II, Nat.zero_div, Nat.zero_mul, Nat.sub_zero, Nat.mul_one, Nat.div_one, x_s0, Int32.zero_add, x_c1, x_c2, x_c3, x_c4, x_c5, x_c6, x_c8, x_c12, x_c14, x_c20, x_c26, x_c52, x_c60, x_c100, x_c128, x_c130, m.k, m.r0, m.r1, m.r3, m.r4, m.r8, m.r9, m.r12, m.r13, m.r14, m.r15, m.r16, m.r18, m.r19, m.k0, m.k1, m.k3, m.k4, m.k8, m.k9, m.k12, m.k13, m.k14, m.k15, m.k16, m.k18, m.k19, m.l0, m.l1, m.l3, m.l4, m.l8, m.l9, m.l12, m.l13, m.l14, m.l15, m.l16, m.l18, m.l19, m_columns m, hc]
  rcases h3 with rfl | rfl <;> rfl
theorem m_pointsOf (m : mL h) {p k : Nat} (hp : p < 2) (hk : k < 6) : am_ev 102 0 [.ref 20, .int (nI p), .int (nI k)] [] h = some (some (.int (am_I h 21 (2 + 6 * p + k))), h) := by
  rw [am_b102_0]
  simp (disch := omega) only [am_oe, am_bI, am_bV, am_bJ, am_bA, if_true, if_false, x_kI, x_lI, x_RI, x_kJ, x_lJ, x_RJ, x_kr, x_lr, x_Rr, x_krJ, x_lrJ, x_RrJ, x_kf, x_lf, x_Rf, x_ko, x_lo, x_Ro, x_I, x_J, x_IJ, x_JI, x_lt, x_eq, x_eq0, x_neg, x_lt0, x_cl, x_cl0, x_sub, nI_add, pk_mul, nI_0, x_div, or_false, false_or, or_true, true_or, and_true, true_and, not_false_eq_true, and_false, false_and, not_true_eq_false, Nat.reduceEqDiff, reduceCtorEq, Nat.reduceSub, Nat.reduceDiv, Nat.reduceMul, Nat.reduceAdd, Nat.reduceLT, x_II, Nat.zero_div, Nat.zero_mul, Nat.sub_zero, Nat.mul_one, Nat.div_one, x_s0, Int32.zero_add, x_c1, x_c2, x_c3, x_c4, x_c5, x_c6, x_c8, x_c12, x_c14, x_c20, x_c26, x_c52, x_c60, x_c100, x_c128, x_c130, m.k, m.r0, m.r1, m.r3, m.r4, m.r8, m.r9, m.r12, m.r13, m.r14, m.r15, m.r16, m.r18, m.r19, m.k0, m.k1, m.k3, m.k4, m.k8, m.k9, m.k12, m.k13, m.k14, m.k15, m.k16, m.k18, m.k19, m.l0, m.l1, m.l3, m.l4, m.l8, m.l9, m.l12, m.l13, m.l14, m.l15, m.l16, m.l18, m.l19]
  simp only [show ¬ (26 ≤ 2 + 6 * p + k) by omega, not_false_eq_true, if_true]
theorem m_cellOf (m : mL h) {c : Nat} (hc : am_I h 21 0 = nI c) (r q : Nat) : am_ev 104 0 [.ref 20, .int (nI r), .int (nI q)] [] h = some (some (.int (nI (c * r + q))), h) := by
  rw [am_b104_0]
  simp (disch := omega) only [am_oe, am_bI, am_bV, am_bJ, am_bA, if_true, if_false, x_kI, x_lI, x_RI, x_kJ, x_lJ, x_RJ, x_kr, x_lr, x_Rr, x_krJ, x_lrJ, x_RrJ, x_kf, x_lf, x_Rf, x_ko, x_lo, x_Ro, x_I, x_J, x_IJ, x_JI, x_lt, x_eq, x_eq0, x_neg, x_lt0, x_cl, x_cl0, x_sub, nI_add, pk_mul, nI_0, x_div, or_false, false_or, or_true, true_or, and_true, true_and, not_false_eq_true, and_false, false_and, not_true_eq_false, Nat.reduceEqDiff, reduceCtorEq, Nat.reduceSub, Nat.reduceDiv, Nat.reduceMul, Nat.reduceAdd, Nat.reduceLT, x_II, Nat.zero_div, Nat.zero_mul, Nat.sub_zero, Nat.mul_one, Nat.div_one, x_s0, Int32.zero_add, x_c1, x_c2, x_c3, x_c4, x_c5, x_c6, x_c8, x_c12, x_c14, x_c20, x_c26, x_c52, x_c60, x_c100, x_c128, x_c130, m.k, m.r0, m.r1, m.r3, m.r4, m.r8, m.r9, m.r12, m.r13, m.r14, m.r15, m.r16, m.r18, m.r19, m.k0, m.k1, m.k3, m.k4, m.k8, m.k9, m.k12, m.k13, m.k14, m.k15, m.k16, m.k18, m.k19, m.l0, m.l1, m.l3, m.l4, m.l8, m.l9, m.l12, m.l13, m.l14, m.l15, m.l16, m.l18, m.l19, m_columns m, hc]
/-- what looking at an inequality leaves in the Model's fields -/
def mK (h : AH) (c q : Nat) : AH := am_sI (am_sI (am_sI h 20 5 (nI (q_pl q))) 20 6 (nI (q_td c q))) 20 7 (nI (q_ot c q))
theorem mK_I {h : AH} {c q d : Nat} (hd : d ≠ 20) : am_I (mK h c q) d = am_I h d := by
  unfold mK
  simp only [x_I, if_neg hd]
theorem mL.K {h : AH} (m : mL h) {c q : Nat} : mL (mK h c q) := m.of rfl rfl
theorem m_look (m : mL h) {c q : Nat} (hc : am_I h 21 0 = nI c) (h3 : c = 2 ∨ c = 3) (hq : q < q_nq c) : am_ev 105 0 [.ref 20, .int (nI q), am_ph] [] h = some (none, mK h c q) := by
  rw [am_b105_0]
  simp only [am_b105_11]
  rcases h3 with rfl | rfl
  · have hq4 : q < 4 := hq
    by_cases h2 : q < 2
    · simp (disch := omega) only [am_oe, am_bI, am_bV, am_bJ, am_bA, if_true, if_false, x_kI, x_lI, x_RI, x_kJ, x_lJ, x_RJ, x_kr, x_lr, x_Rr, x_krJ, x_lrJ, x_RrJ, x_kf, x_lf, x_Rf, x_ko, x_lo, x_Ro, x_I, x_J, x_IJ, x_JI, x_lt, x_eq, x_eq0, x_neg, x_lt0, x_cl, x_cl0, x_sub, nI_add, pk_mul, nI_0, x_div, or_false, false_or, or_true, true_or, and_true, true_and, not_false_eq_true, and_false, false_and, not_true_eq_false, Nat.reduceEqDiff, reduceCtorEq, Nat.reduceSub, Nat.reduceDiv, Nat.reduceMul, Nat.reduceAdd, Nat.reduceLT, x_II, Nat.zero_div, Nat.zero_mul, Nat.sub_zero, Nat.mul_one, Nat.div_one, x_s0, Int32.zero_add, x_c1, x_c2, x_c3, x_c4, x_c5, x_c6, x_c8, x_c12, x_c14, x_c20, x_c26, x_c52, x_c60, x_c100, x_c128, x_c130, m.k, m.r0, m.r1, m.r3, m.r4, m.r8, m.r9, m.r12, m.r13, m.r14, m.r15, m.r16, m.r18, m.r19, m.k0, m.k1, m.k3, m.k4, m.k8, m.k9, m.k12, m.k13, m.k14, m.k15, m.k16, m.k18, m.k19, m.l0, m.l1, m.l3, m.l4, m.l8, m.l9, m.l12, m.l13, m.l14, m.l15, m.l16, m.l18, m.l19, m_columns m.sI, x_ud, hc]
      rw [if_pos h2]
      unfold mK q_pl q_td q_ot
      simp only [if_pos h2, nI_0]
    · simp (disch := omega) only [am_oe, am_bI, am_bV, am_bJ, am_bA, if_true, if_false, x_kI, x_lI, x_RI, x_kJ, x_lJ, x_RJ, x_kr, x_lr, x_Rr, x_krJ, x_lrJ, x_RrJ, x_kf, x_lf, x_Rf, x_ko, x_lo, x_Ro, x_I, x_J, x_IJ, x_JI, x_lt, x_eq, x_eq0, x_neg, x_lt0, x_cl, x_cl0, x_sub, nI_add, pk_mul, nI_0, x_div, or_false, false_or, or_true, true_or, and_true, true_and, not_false_eq_true, and_false, false_and, not_true_eq_false, Nat.reduceEqDiff, reduceCtorEq, Nat.reduceSub, Nat.reduceDiv, Nat.reduceMul, Nat.reduceAdd, Nat.reduceLT, x_II, Nat.zero_div, Nat.zero_mul, Nat.sub_zero, Nat.mul_one, Nat.div_one, x_s0, Int32.zero_add, x_c1, x_c2, x_c3, x_c4, x_c5, x_c6, x_c8, x_c12, x_c14, x_c20, x_c26, x_c52, x_c60, x_c100, x_c128, x_c130, m.k, m.r0, m.r1, m.r3, m.r4, m.r8, m.r9, m.r12, m.r13, m.r14, m.r15, m.r16, m.r18, m.r19, m.k0, m.k1, m.k3, m.k4, m.k8, m.k9, m.k12, m.k13, m.k14, m.k15, m.k16, m.k18, m.k19, m.l0, m.l1, m.l3, m.l4, m.l8, m.l9, m.l12, m.l13, m.l14, m.l15, m.l16, m.l18, m.l19, m_columns m.sI, x_ud, hc]
      rw [if_neg h2]
      unfold mK q_pl q_td q_ot
      simp only [if_neg h2, nI_0]
      rcases (show q = 2 ∨ q = 3 by omega) with rfl | rfl <;> simp [nI_0]
  · have hq8 : q < 8 := hq
    by_cases h2 : q < 2
    · simp (disch := omega) only [am_oe, am_bI, am_bV, am_bJ, am_bA, if_true, if_false, x_kI, x_lI, x_RI, x_kJ, x_lJ, x_RJ, x_kr, x_lr, x_Rr, x_krJ, x_lrJ, x_RrJ, x_kf, x_lf, x_Rf, x_ko, x_lo, x_Ro, x_I, x_J, x_IJ, x_JI, x_lt, x_eq, x_eq0, x_neg, x_lt0, x_cl, x_cl0, x_sub, nI_add, pk_mul, nI_0, x_div, or_false, false_or, or_true, true_or, and_true, true_and, not_false_eq_true, and_false, false_and, not_true_eq_false, Nat.reduceEqDiff, reduceCtorEq, Nat.reduceSub, Nat.reduceDiv, Nat.reduceMul, Nat.reduceAdd, Nat.reduceLT, x_II, Nat.zero_div, Nat.zero_mul, Nat.sub_zero, Nat.mul_one, Nat.div_one, x_s0, Int32.zero_add, x_c1, x_c2, x_c3, x_c4, x_c5, x_c6, x_c8, x_c12, x_c14, x_c20, x_c26, x_c52, x_c60, x_c100, x_c128, x_c130, m.k, m.r0, m.r1, m.r3, m.r4, m.r8, m.r9, m.r12, m.r13, m.r14, m.r15, m.r16, m.r18, m.r19, m.k0, m.k1, m.k3, m.k4, m.k8, m.k9, m.k12, m.k13, m.k14, m.k15, m.k16, m.k18, m.k19, m.l0, m.l1, m.l3, m.l4, m.l8, m.l9, m.l12, m.l13, m.l14, m.l15, m.l16, m.l18, m.l19, m_columns m.sI, x_ud, hc]
      rw [if_pos h2]
      unfold mK q_pl q_td q_ot
      simp only [if_pos h2, nI_0]
    · simp (disch := omega) only [am_oe, am_bI, am_bV, am_bJ, am_bA, if_true, if_false, x_kI, x_lI, x_RI, x_kJ, x_lJ, x_RJ, x_kr, x_lr, x_Rr, x_krJ, x_lrJ, x_RrJ, x_kf, x_lf, x_Rf, x_ko, x_lo, x_Ro, x_I, x_J, x_IJ, x_JI, x_lt, x_eq, x_eq0, x_neg, x_lt0, x_cl, x_cl0, x_sub, nI_add, pk_mul, nI_0, x_div, or_false, false_or, or_true, true_or, and_true, true_and, not_false_eq_true, and_false, false_and, not_true_eq_false, Nat.reduceEqDiff, reduceCtorEq, Nat.reduceSub, Nat.reduceDiv, Nat.reduceMul, Nat.reduceAdd, Nat.reduceLT, x_II, Nat.zero_div, Nat.zero_mul, Nat.sub_zero, Nat.mul_one, Nat.div_one, x_s0, Int32.zero_add, x_c1, x_c2, x_c3, x_c4, x_c5, x_c6, x_c8, x_c12, x_c14, x_c20, x_c26, x_c52, x_c60, x_c100, x_c128, x_c130, m.k, m.r0, m.r1, m.r3, m.r4, m.r8, m.r9, m.r12, m.r13, m.r14, m.r15, m.r16, m.r18, m.r19, m.k0, m.k1, m.k3, m.k4, m.k8, m.k9, m.k12, m.k13, m.k14, m.k15, m.k16, m.k18, m.k19, m.l0, m.l1, m.l3, m.l4, m.l8, m.l9, m.l12, m.l13, m.l14, m.l15, m.l16, m.l18, m.l19, m_columns m.sI, x_ud, hc]
      rw [if_neg h2]
      unfold mK q_pl q_td q_ot
      simp only [if_neg h2, nI_0, show q - 2 - (q - 2) / 2 * 2 = (q - 2) % 2 by omega, if_true]
      by_cases h3 : (q - 2) % 2 < (q - 2) / 2
      · simp only [if_pos h3, Int32.add_zero]
      · simp only [if_neg h3]
end model
