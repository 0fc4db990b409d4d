/-! ===== the class's State: what its small methods answer (numbers of moves and cells as naturals, points and weights as they lie) ===== -/
def q_nq (c : Nat) : Nat := 2 + c * (c - 1)
def q_pl (q : Nat) : Nat := if q < 2 then 0 else 1
def q_td (c q : Nat) : Nat := if q < 2 then q else if c = 3 then (q - 2) / 2 else q - 2
def q_ot (c q : Nat) : Nat := if q < 2 then 1 - q else if c = 3 then (if (q - 2) % 2 < (q - 2) / 2 then (q - 2) % 2 else (q - 2) % 2 + 1) else 1 - (q - 2)
def q_mv (c k p : Nat) : Nat := if p = 0 then (if k < c then 0 else 1) else (if k < c then k else k - c)
/-- what the player of inequality q loses in cell k by the other move; g p k: the points -/
def q_ls (c : Nat) (g : Nat → Nat → Int32) (q k : Nat) : Int32 := if q_mv c k (q_pl q) = q_td c q then g (q_pl q) k - g (q_pl q) (if q_pl q = 0 then c * q_ot c q + q_mv c k 1 else c * q_mv c k 0 + q_ot c q) else 0
def q_sum (n : Nat) (f : Nat → Int32) : Int32 := match n with
  | 0 => 0
  | n + 1 => q_sum n f + f n
/-- a State at a, of c columns -/
def sS (h : AH) (a c : Nat) : Prop := am_kd h a = 2 ∧ am_R h a 2 = some (a + 1) ∧ am_R h a 3 = some (a + 2) ∧ am_R h a 4 = some (a + 3) ∧ (am_kd h (a + 1) = 5 ∧ am_ln h (a + 1) = 12) ∧ (am_kd h (a + 2) = 5 ∧ am_ln h (a + 2) = 6) ∧ (am_kd h (a + 3) = 5 ∧ am_ln h (a + 3) = 6) ∧ am_I h a 0 = nI c ∧ (c = 2 ∨ c = 3)
/-- the points of a State at a -/
def sG (h : AH) (a : Nat) (p k : Nat) : Int32 := am_I h (a + 1) (6 * p + k)
theorem q_lt {a b : Nat} (ha : a < 2 ^ 31) (hb : b < 2 ^ 31) : (nI a < nI b) = (a < b) := propext (nI_ltI ha hb)
theorem q_neg {a : Nat} (ha : a < 2 ^ 31) : (nI a < 0) = False := eq_false (nI_pos ha)
theorem q_eq {a b : Nat} (ha : a < 2 ^ 31) (hb : b < 2 ^ 31) : (nI a = nI b) = (a = b) := propext (nI_eq ha hb)
theorem s_amount {h : AH} {a k : Nat} (hk : am_kd h a = 5) (hl : am_ln h a < 2 ^ 31) (h1 : k < 2 ^ 31) : am_ev 91 0 [.ref a, .int (nI k)] [] h = some (some (.int (if k < am_ln h a then am_I h a k else 0)), h) := by
  rw [am_b91_0, hk, show Int32.ofNat (am_ln h a) = nI (am_ln h a) from rfl, nI_clamp h1]
  simp only [q_neg h1, q_lt h1 hl]
  by_cases h2 : k < am_ln h a
  · simp [h2, Nat.not_le.mpr h2]
  · simp [h2]
theorem s_setAmount {h : AH} {a k : Nat} {v : Int32} (hk : am_kd h a = 5) (hl : am_ln h a < 2 ^ 31) (h1 : k < 2 ^ 31) (h2 : k < am_ln h a) : am_ev 92 0 [.ref a, .int (nI k), .int v] [] h = some (none, am_sI h a k v) := by
  rw [am_b92_0, hk, show Int32.ofNat (am_ln h a) = nI (am_ln h a) from rfl, nI_clamp h1]
  simp only [q_neg h1, q_lt h1 hl]
  simp [h2, Nat.not_le.mpr h2]
section state
variable {h : AH} {a c : Nat}
theorem s_cells (S : sS h a c) : am_ev 44 0 [.ref a] [] h = some (some (.int (nI (2 * c))), h) := by
  rw [am_b44_0, if_pos S.1, S.2.2.2.2.2.2.2.1, show (2 : Int32) = nI 2 from rfl, pk_mul]
theorem s_cellAt (S : sS h a c) (r q : Nat) : am_ev 45 0 [.ref a, .int (nI r), .int (nI q)] [] h = some (some (.int (nI (c * r + q))), h) := by
  rw [am_b45_0, if_pos S.1, S.2.2.2.2.2.2.2.1, pk_mul, nI_add]
theorem s_inequalities (S : sS h a c) : am_ev 51 0 [.ref a] [] h = some (some (.int (nI (q_nq c))), h) := by
  rw [am_b51_0, if_pos S.1, if_pos S.1, S.2.2.2.2.2.2.2.1]
  rcases S.2.2.2.2.2.2.2.2 with rfl | rfl <;> rfl
theorem s_playerOf {q : Nat} (hq : q < 8) : am_ev 52 0 [.ref a, .int (nI q)] [] h = some (some (.int (nI (q_pl q))), h) := by
  rw [am_b52_0, show (2 : Int32) = nI 2 from rfl]
  simp only [q_lt (show q < 2 ^ 31 by omega) (show 2 < 2 ^ 31 by omega)]
  unfold q_pl
  by_cases h2 : q < 2 <;> simp [h2] <;> rfl
theorem s_moveIn (S : sS h a c) {k p : Nat} (hk : k < 2 * c) (hp : p < 2) : am_ev 46 0 [.ref a, .int (nI k), .int (nI p), am_ph] [] h = some (some (.int (nI (q_mv c k p))), h) := by
  have hc := S.2.2.2.2.2.2.2.1
  have hc2 : c ≤ 3 := by rcases S.2.2.2.2.2.2.2.2 with rfl | rfl <;> omega
  rw [am_b46_0, if_pos S.1, hc]
  simp only [q_lt (show k < 2 ^ 31 by omega) (show c < 2 ^ 31 by omega)]
  unfold q_mv
  rcases (show p = 0 ∨ p = 1 by omega) with rfl | rfl
  · by_cases h2 : k < c
    · simp only [h2, if_true, am_b46_13]
      rfl
    · simp only [h2, if_false, if_true, am_b46_13]
      rfl
  · by_cases h2 : k < c
    · simp only [h2, if_true, am_b46_13, S.1, hc]
      rw [if_neg (by decide), show (0 : Int32) = nI 0 from rfl, pk_mul, pk_sub (by omega)]
      simp
    · simp only [h2, if_false, am_b46_13, S.1, hc, if_true]
      rw [if_neg (by decide), show (1 : Int32) = nI 1 from rfl, pk_mul, pk_sub (by omega)]
      simp
theorem s_gain (S : sS h a c) {p k : Nat} (hp : p < 2) (hk : k < 6) : am_ev 47 0 [.ref a, .int (nI p), .int (nI k)] [] h = some (some (.int (sG h a p k)), h) := by
  rw [am_b47_0, if_pos S.1, S.2.1, show (6 : Int32) = nI 6 from rfl, pk_mul, nI_add]
  simp only [am_oe]
  rw [s_amount S.2.2.2.2.1.1 (by rw [S.2.2.2.2.1.2]; omega) (by omega), S.2.2.2.2.1.2, if_pos (by omega)]
  simp only [am_bI]
  unfold sG
  rw [Nat.mul_comm]
theorem s_gainBoth (S : sS h a c) {p k : Nat} (hp : p < 3) (hk : k < 6) : am_ev 49 0 [.ref a, .int (nI p), .int (nI k)] [] h = some (some (.int (if p = 2 then sG h a 0 k + sG h a 1 k else sG h a p k)), h) := by
  rw [am_b49_0, show (2 : Int32) = nI 2 from rfl]
  simp only [q_eq (show p < 2 ^ 31 by omega) (show 2 < 2 ^ 31 by omega)]
  by_cases h2 : p = 2
  · rw [if_pos h2, if_pos h2, if_pos S.1, show (0 : Int32) = nI 0 from rfl, s_gain S (by omega) hk]
    simp only [am_bI, S.1, if_true]
    rw [show (1 : Int32) = nI 1 from rfl, s_gain S (by omega) hk]
  · rw [if_neg h2, if_neg h2, if_pos S.1, s_gain S (by omega) hk]
    rfl
theorem s_toldMove (S : sS h a c) {q : Nat} (hq : q < q_nq c) : am_ev 53 0 [.ref a, .int (nI q)] [] h = some (some (.int (nI (q_td c q))), h) := by
  have hc := S.2.2.2.2.2.2.2.1
  rw [am_b53_0, S.1, hc]
  rcases S.2.2.2.2.2.2.2.2 with rfl | rfl
  · rcases (show q = 0 ∨ q = 1 ∨ q = 2 ∨ q = 3 by simp [q_nq] at hq; omega) with rfl | rfl | rfl | rfl <;> rfl
  · rcases (show q = 0 ∨ q = 1 ∨ q = 2 ∨ q = 3 ∨ q = 4 ∨ q = 5 ∨ q = 6 ∨ q = 7 by simp [q_nq] at hq; omega) with rfl | rfl | rfl | rfl | rfl | rfl | rfl | rfl <;> rfl
theorem s_otherMove (S : sS h a c) {q : Nat} (hq : q < q_nq c) : am_ev 54 0 [.ref a, .int (nI q), am_ph, am_ph] [] h = some (some (.int (nI (q_ot c q))), h) := by
  have hc := S.2.2.2.2.2.2.2.1
  rw [am_b54_0, if_pos S.1, s_toldMove S hq]
  simp only [am_bI, S.1, hc, if_true]
  rcases S.2.2.2.2.2.2.2.2 with rfl | rfl
  · rcases (show q = 0 ∨ q = 1 ∨ q = 2 ∨ q = 3 by simp [q_nq] at hq; omega) with rfl | rfl | rfl | rfl <;> rfl
  · rcases (show q = 0 ∨ q = 1 ∨ q = 2 ∨ q = 3 ∨ q = 4 ∨ q = 5 ∨ q = 6 ∨ q = 7 by simp [q_nq] at hq; omega) with rfl | rfl | rfl | rfl | rfl | rfl | rfl | rfl <;> rfl
end state
