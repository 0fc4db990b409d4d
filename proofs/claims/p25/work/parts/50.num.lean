/-! ===== longs: sums, products and quotients that stay in their room ===== -/
theorem y_rng (x : Int64) : -9223372036854775808 ≤ x.toInt ∧ x.toInt < 9223372036854775808 := ⟨Int64.le_toInt x, Int64.toInt_lt x⟩
theorem y_bm {x : Int} (h1 : -9223372036854775808 ≤ x) (h2 : x < 9223372036854775808) : x.bmod (2 ^ 64) = x := by
  rw [Int.bmod_def]
  omega
theorem y_add {a b : Int64} (h1 : -9223372036854775808 ≤ a.toInt + b.toInt) (h2 : a.toInt + b.toInt < 9223372036854775808) : (a + b).toInt = a.toInt + b.toInt := by
  rw [Int64.toInt_add, y_bm h1 h2]
theorem y_sub {a b : Int64} (h1 : -9223372036854775808 ≤ a.toInt - b.toInt) (h2 : a.toInt - b.toInt < 9223372036854775808) : (a - b).toInt = a.toInt - b.toInt := by
  rw [Int64.toInt_sub, y_bm h1 h2]
theorem y_mul {a b : Int64} (h1 : -9223372036854775808 ≤ a.toInt * b.toInt) (h2 : a.toInt * b.toInt < 9223372036854775808) : (a * b).toInt = a.toInt * b.toInt := by
  rw [Int64.toInt_mul, y_bm h1 h2]
theorem y_lt {a b : Int64} : (a < b) = (a.toInt < b.toInt) := propext Int64.lt_iff_toInt_lt
theorem y_eq {a b : Int64} : (a = b) = (a.toInt = b.toInt) := propext Int64.toInt_inj.symm
theorem y_div {a b : Int64} (h : 0 < b.toInt) : (a / b).toInt = Int.tdiv a.toInt b.toInt := by
  have ha := y_rng a
  rw [Int64.toInt_div, y_bm]
  · have := Int.natAbs_tdiv_le_natAbs a.toInt b.toInt
    omega
  · have := Int.natAbs_tdiv_le_natAbs a.toInt b.toInt
    by_cases e : a.toInt < 0
    · have e2 : Int.tdiv a.toInt b.toInt ≤ 0 := by
        have := Int.tdiv_nonneg (show 0 ≤ -a.toInt by omega) (show 0 ≤ b.toInt by omega)
        rw [Int.neg_tdiv] at this
        omega
      omega
    · omega
/-- the remainder of a quotient, towards zero -/
theorem y_tm {x y : Int} (h : 0 < y) : -y < Int.tmod x y ∧ Int.tmod x y < y ∧ (0 ≤ x → 0 ≤ Int.tmod x y) ∧ (x < 0 → Int.tmod x y ≤ 0) := by
  by_cases e : 0 ≤ x
  · have h1 := Int.tmod_nonneg y e
    have h2 := Int.tmod_lt_of_pos x h
    exact ⟨by omega, h2, fun _ => h1, fun z => absurd e (by omega)⟩
  · have h1 := Int.tmod_nonneg y (show 0 ≤ -x by omega)
    have h2 := Int.tmod_lt_of_pos (-x) h
    rw [Int.neg_tmod] at h1 h2
    exact ⟨by omega, by omega, fun z => absurd z e, fun _ => by omega⟩
theorem y_dm {a b : Int64} (h : 0 < b.toInt) : (a / b * b).toInt = a.toInt - Int.tmod a.toInt b.toInt := by
  have e := Int.mul_tdiv_add_tmod a.toInt b.toInt
  have t := y_tm (x := a.toInt) h
  have ha := y_rng a
  have hb := y_rng b
  rw [Int.mul_comm] at e
  rw [y_mul] <;> rw [y_div h] <;> omega
theorem y_rem {a b : Int64} (h : 0 < b.toInt) : (a - a / b * b).toInt = Int.tmod a.toInt b.toInt := by
  have t := y_tm (x := a.toInt) h
  have ha := y_rng a
  have hb := y_rng b
  rw [y_sub] <;> rw [y_dm h] <;> omega
/-- division that rounds down, as the Model does it, and as the library does it -/
def q_div (a b : Int64) : Int64 := if lg_cmp (a - a / b * b) (0 : Int64) < 0 then a / b - (1 : Int64) else a / b
def q_fd (a b : Int64) : Int64 := if lg_cmp (a ^^^ b) (0 : Int64) < 0 then (if lg_cmp (a / b * b) a = 0 then a / b else a / b - (1 : Int64)) else a / b
theorem y_xor {a b : Int64} (h : 0 < b.toInt) : (a ^^^ b < 0) = (a < 0) := by
  have k : ∀ x : Int64, (x < 0) = (x.toBitVec.msb = true) := by
    intro x
    rw [y_lt]
    show (x.toBitVec.toInt < 0) = _
    rw [BitVec.msb_eq_toInt]
    simp
  rw [k, k, Int64.toBitVec_xor, BitVec.msb_xor]
  have hb : b.toBitVec.msb = false := by
    rw [BitVec.msb_eq_toInt]
    have : ¬ b.toBitVec.toInt < 0 := by
      show ¬ b.toInt < 0
      omega
    simp
    omega
  rw [hb]
  simp
theorem q_fd_eq {a b : Int64} (h : 0 < b.toInt) : q_fd a b = q_div a b := by
  unfold q_fd q_div
  have t := y_tm (x := a.toInt) h
  simp only [lg_cmp_lt, lg_cmp_eq, y_xor h]
  simp only [y_lt, y_rem h, y_eq (a := a / b * b), y_dm h]
  rw [show (0 : Int64).toInt = 0 from rfl]
  by_cases e : a.toInt < 0
  · rw [if_pos e]
    by_cases e2 : Int.tmod a.toInt b.toInt = 0
    · rw [if_pos (by omega), if_neg (by omega)]
    · rw [if_neg (by omega), if_pos (by have := t.2.2.2 e; omega)]
  · rw [if_neg e, if_neg (by have := t.2.2.1 (by omega); omega)]
def q_thou (P N : Int64) : Int32 := (q_div ((1000 : Int64) * P) N).toInt32 + (100000 : Int32)
theorem x_floorDiv {a b : Int64} {h : AH} (hb : 0 < b.toInt) : am_ev 162 0 [.long a, am_ph, .long b, am_ph, am_ph, am_ph] [] h = some (some (.long (q_div a b)), h) := by
  rw [am_b162_0, if_neg (by rw [y_eq]; show ¬ b.toInt = 0; omega), ← q_fd_eq hb]
  unfold q_fd
  by_cases e : lg_cmp (a ^^^ b) (0 : Int64) < 0
  · rw [if_pos e, if_pos e]
    by_cases e2 : lg_cmp (a / b * b) a = 0
    · rw [if_pos e2, if_pos e2]
    · rw [if_neg e2, if_neg e2]
  · rw [if_neg e, if_neg e]
theorem x_thou {P N : Int64} {h : AH} (hb : 0 < N.toInt) : am_ev 88 0 [.long P, am_ph, .long N, am_ph] [] h = some (some (.int (q_thou P N)), h) := by
  rw [am_b88_0]
  simp only [lg_cmp_gt]
  rw [if_pos (by rw [y_lt]; exact hb), x_floorDiv hb, x_bJ]
  rfl
theorem x_l {x : Int32} : (x.toInt64).toInt = x.toInt := Int32.toInt_toInt64 x
theorem i_sub {a b : Int32} (h1 : -2147483648 ≤ a.toInt - b.toInt) (h2 : a.toInt - b.toInt < 2147483648) : (a - b).toInt = a.toInt - b.toInt := by
  rw [Int32.toInt_sub, x_bm h1 h2]
theorem z_mulb {a b p q : Int} (h1 : 0 ≤ a) (h2 : a ≤ p) (h3 : -q ≤ b) (h4 : b ≤ q) : -(p * q) ≤ a * b ∧ a * b ≤ p * q := by
  have hq : 0 ≤ q := by omega
  have e1 : a * b ≤ a * q := Int.mul_le_mul_of_nonneg_left h4 h1
  have e2 : a * q ≤ p * q := Int.mul_le_mul_of_nonneg_right h2 hq
  have e3 : a * (-q) ≤ a * b := Int.mul_le_mul_of_nonneg_left h3 h1
  rw [Int.mul_neg] at e3
  omega
