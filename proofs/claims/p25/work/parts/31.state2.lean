/-! ===== the class's State: losses, sums, counts ===== -/
def q_cnt (n : Nat) (p : Nat → Prop) [DecidablePred p] : Nat := match n with
  | 0 => 0
  | n + 1 => if p n then q_cnt n p + 1 else q_cnt n p
theorem q_cnt_s (n : Nat) (p : Nat → Prop) [DecidablePred p] : q_cnt (n + 1) p = if p n then q_cnt n p + 1 else q_cnt n p := rfl
theorem q_cnt_le (n : Nat) (p : Nat → Prop) [DecidablePred p] : q_cnt n p ≤ n := by
  induction n with
  | zero => exact Nat.le_refl _
  | succ n ih => unfold q_cnt; split <;> omega
theorem q_sum_congr {n : Nat} {f g : Nat → Int32} (h : ∀ k, k < n → f k = g k) : q_sum n f = q_sum n g := by
  induction n with
  | zero => rfl
  | succ n ih =>
    unfold q_sum
    rw [ih (fun k hk => h k (by omega)), h n (by omega)]
theorem nI_S (n : Nat) : nI n + (1 : Int32) = nI (n + 1) := nI_1 n
theorem q_mv_lt {c k p : Nat} (hk : k < 2 * c) : q_mv c k p < 2 ∨ q_mv c k p < c := by
  unfold q_mv
  split
  · left; split <;> omega
  · right; split <;> omega
theorem q_nq_le {c : Nat} (h : c = 2 ∨ c = 3) : q_nq c ≤ 8 ∧ 4 ≤ q_nq c := by rcases h with rfl | rfl <;> decide
theorem q_oc_lt {c q k : Nat} (hc : c = 2 ∨ c = 3) (hq : q < q_nq c) (hk : k < 2 * c) : (if q_pl q = 0 then c * q_ot c q + q_mv c k 1 else c * q_mv c k 0 + q_ot c q) < 2 * c := by
  rcases hc with rfl | rfl
  · have : ∀ q, q < 4 → ∀ k, k < 4 → (if q_pl q = 0 then 2 * q_ot 2 q + q_mv 2 k 1 else 2 * q_mv 2 k 0 + q_ot 2 q) < 4 := by decide
    exact this q hq k hk
  · have : ∀ q, q < 8 → ∀ k, k < 6 → (if q_pl q = 0 then 3 * q_ot 3 q + q_mv 3 k 1 else 3 * q_mv 3 k 0 + q_ot 3 q) < 6 := by decide
    exact this q hq k hk
theorem q_pl_lt (q : Nat) : q_pl q < 2 := by unfold q_pl; split <;> omega
theorem q_td_lt {c q : Nat} (hc : c = 2 ∨ c = 3) (hq : q < q_nq c) : q_td c q < 3 := by
  rcases hc with rfl | rfl
  · have : ∀ q, q < 4 → q_td 2 q < 3 := by decide
    exact this q hq
  · have : ∀ q, q < 8 → q_td 3 q < 3 := by decide
    exact this q hq
section state2
variable {h : AH} {a c : Nat}
theorem sS.c3 (S : sS h a c) : c = 2 ∨ c = 3 := S.2.2.2.2.2.2.2.2
theorem s_loss68 (S : sS h a c) {k p j : Nat} (hp : p < 2) (hk : k < 6) (hj : j < 6) : am_ev 55 68 [.ref a, am_ph, .int (nI k), .int (nI p), am_ph, am_ph, am_ph, am_ph] [.int (nI j)] h = some (some (.int (sG h a p k - sG h a p j)), h) := by
  rw [am_b55_68, if_pos S.1, s_gain S hp hk]
  simp only [am_bI, S.1, if_true]
  rw [s_gain S hp hj]
theorem s_loss (S : sS h a c) {q k : Nat} (hq : q < q_nq c) (hk : k < 2 * c) : am_ev 55 0 [.ref a, .int (nI q), .int (nI k), am_ph, am_ph, am_ph, am_ph, am_ph] [] h = some (some (.int (q_ls c (sG h a) q k)), h) := by
  have hc := S.c3
  have hq8 := q_nq_le hc
  have hk6 : k < 6 := by rcases hc with rfl | rfl <;> omega
  have hp := q_pl_lt q
  have hoc := q_oc_lt hc hq hk
  have hc6 : 2 * c ≤ 6 := by rcases hc with rfl | rfl <;> omega
  have hmp : q_mv c k (q_pl q) < 4 := by rcases q_mv_lt (p := q_pl q) hk with z | z <;> rcases hc with rfl | rfl <;> omega
  have htd := q_td_lt hc hq
  rw [am_b55_0, if_pos S.1, s_playerOf (by omega)]
  simp only [am_bI, S.1, if_true]
  rw [s_moveIn S hk hp]
  simp only []
  rw [s_toldMove S hq]
  simp only [q_eq (show q_mv c k (q_pl q) < 2 ^ 31 by omega) (show q_td c q < 2 ^ 31 by omega)]
  unfold q_ls
  by_cases h1 : q_mv c k (q_pl q) = q_td c q
  · rw [if_pos h1, if_pos h1, show (0 : Int32) = nI 0 from rfl, s_moveIn S hk (by omega)]
    simp only []
    rw [show (1 : Int32) = nI 1 from rfl, s_moveIn S hk (by omega)]
    simp only []
    rw [s_otherMove S hq]
    simp only [q_eq (show q_pl q < 2 ^ 31 by omega) (show 0 < 2 ^ 31 by omega)]
    by_cases h2 : q_pl q = 0
    · rw [if_pos h2, if_pos h2, s_cellAt S]
      simp only []
      rw [if_pos h2] at hoc
      simp only [S.1, if_true]
      exact s_loss68 S hp hk6 (by omega)
    · rw [if_neg h2, if_neg h2, s_cellAt S]
      simp only []
      rw [if_neg h2] at hoc
      simp only [S.1, if_true]
      exact s_loss68 S hp hk6 (by omega)
  · rw [if_neg h1, if_neg h1]
    simp only [S.1, if_true]
theorem s_leftSide5 (S : sS h a c) {w q : Nat} (hw : am_kd h w = 5) (hl : am_ln h w = 6) (hq : q < q_nq c) : ∀ (d j : Nat), j + d = 2 * c → am_ev 56 5 [.ref a, .int (nI q), .ref w, .int (q_sum j fun k => am_I h w k * q_ls c (sG h a) q k), .int (nI j)] [] h = some (some (.int (q_sum (2 * c) fun k => am_I h w k * q_ls c (sG h a) q k)), h) := by
  have hc := S.c3
  have hc6 : 2 * c ≤ 6 := by rcases hc with rfl | rfl <;> omega
  intro d
  induction d with
  | zero =>
    intro j hj
    rw [am_b56_5, if_pos S.1, s_cells S]
    simp only [am_bI, q_lt (show j < 2 ^ 31 by omega) (show 2 * c < 2 ^ 31 by omega)]
    rw [if_neg (by omega), show j = 2 * c by omega]
  | succ d ih =>
    intro j hj
    rw [am_b56_5, if_pos S.1, s_cells S]
    simp only [am_bI, q_lt (show j < 2 ^ 31 by omega) (show 2 * c < 2 ^ 31 by omega)]
    rw [if_pos (by omega), s_amount hw (by rw [hl]; omega) (by omega), hl, if_pos (by omega)]
    simp only [S.1, if_true]
    rw [s_loss S hq (by omega)]
    simp only [nI_S]
    exact ih (j + 1) (by omega)
theorem s_leftSide (S : sS h a c) {w q : Nat} (hw : am_kd h w = 5) (hl : am_ln h w = 6) (hq : q < q_nq c) : am_ev 56 0 [.ref a, .int (nI q), .ref w, am_ph, am_ph] [] h = some (some (.int (q_sum (2 * c) fun k => am_I h w k * q_ls c (sG h a) q k)), h) := by
  rw [am_b56_0]
  exact s_leftSide5 S hw hl hq (2 * c) 0 (by omega)
/-- the points of one player, or of both (2) -/
def q_gb (g : Nat → Nat → Int32) (p k : Nat) : Int32 := if p = 2 then g 0 k + g 1 k else g p k
theorem s_pointsBy5 (S : sS h a c) {w p : Nat} (hw : am_kd h w = 5) (hl : am_ln h w = 6) (hp : p < 3) : ∀ (d j : Nat), j + d = 2 * c → am_ev 50 5 [.ref a, .ref w, .int (nI p), .int (q_sum j fun k => am_I h w k * q_gb (sG h a) p k), .int (nI j)] [] h = some (some (.int (q_sum (2 * c) fun k => am_I h w k * q_gb (sG h a) p k)), h) := by
  have hc := S.c3
  have hc6 : 2 * c ≤ 6 := by rcases hc with rfl | rfl <;> omega
  intro d
  induction d with
  | zero =>
    intro j hj
    rw [am_b50_5, if_pos S.1, s_cells S]
    simp only [am_bI, q_lt (show j < 2 ^ 31 by omega) (show 2 * c < 2 ^ 31 by omega)]
    rw [if_neg (by omega), show j = 2 * c by omega]
  | succ d ih =>
    intro j hj
    rw [am_b50_5, if_pos S.1, s_cells S]
    simp only [am_bI, q_lt (show j < 2 ^ 31 by omega) (show 2 * c < 2 ^ 31 by omega)]
    rw [if_pos (by omega), s_amount hw (by rw [hl]; omega) (by omega), hl, if_pos (by omega)]
    simp only [S.1, if_true]
    rw [s_gainBoth S hp (by omega)]
    simp only [nI_S]
    exact ih (j + 1) (by omega)
theorem s_pointsBy (S : sS h a c) {w p : Nat} (hw : am_kd h w = 5) (hl : am_ln h w = 6) (hp : p < 3) : am_ev 50 0 [.ref a, .ref w, .int (nI p), am_ph, am_ph] [] h = some (some (.int (q_sum (2 * c) fun k => am_I h w k * q_gb (sG h a) p k)), h) := by
  rw [am_b50_0]
  exact s_pointsBy5 S hw hl hp (2 * c) 0 (by omega)
/-- the left side of inequality q by amounts w -/
def q_lf (c : Nat) (g : Nat → Nat → Int32) (w : Nat → Int32) (q : Nat) : Int32 := q_sum (2 * c) fun k => w k * q_ls c g q k
theorem s_broken4 (S : sS h a c) : ∀ (d j : Nat), j + d = q_nq c → am_ev 57 4 [.ref a, .int (nI (q_cnt j fun q => q_lf c (sG h a) (am_I h (a + 2)) q < 0)), .int (nI j)] [] h = some (some (.int (nI (q_cnt (q_nq c) fun q => q_lf c (sG h a) (am_I h (a + 2)) q < 0))), h) := by
  have hc := S.c3
  have hq8 := q_nq_le hc
  intro d
  induction d with
  | zero =>
    intro j hj
    rw [am_b57_4, if_pos S.1, s_inequalities S]
    simp only [am_bI, q_lt (show j < 2 ^ 31 by omega) (show q_nq c < 2 ^ 31 by omega)]
    rw [if_neg (by omega), show j = q_nq c by omega]
  | succ d ih =>
    intro j hj
    rw [am_b57_4, if_pos S.1, s_inequalities S]
    simp only [am_bI, q_lt (show j < 2 ^ 31 by omega) (show q_nq c < 2 ^ 31 by omega)]
    rw [if_pos (by omega), if_pos S.1, S.2.2.1]
    simp only [am_oe, S.1, if_true]
    rw [s_leftSide S S.2.2.2.2.2.1.1 S.2.2.2.2.2.1.2 (by omega)]
    simp only [nI_S]
    have e := ih (j + 1) (by omega)
    rw [q_cnt_s] at e
    by_cases h1 : q_lf c (sG h a) (am_I h (a + 2)) j < 0
    · rw [if_pos h1] at e
      rw [if_pos (show (q_sum (2 * c) fun k => am_I h (a + 2) k * q_ls c (sG h a) j k) < 0 from h1)]
      exact e
    · rw [if_neg h1] at e
      rw [if_neg (show ¬ (q_sum (2 * c) fun k => am_I h (a + 2) k * q_ls c (sG h a) j k) < 0 from h1)]
      exact e
theorem s_broken (S : sS h a c) : am_ev 57 0 [.ref a, am_ph, am_ph] [] h = some (some (.int (nI (q_cnt (q_nq c) fun q => q_lf c (sG h a) (am_I h (a + 2)) q < 0))), h) := by
  rw [am_b57_0]
  exact s_broken4 S (q_nq c) 0 (by omega)
theorem s_isSure2 (S : sS h a c) {k : Nat} (hk : k < 2 * c) : ∀ (d j : Nat), j + d = q_nq c → (∀ q, q < j → ¬ q_ls c (sG h a) q k < 0) → am_ev 58 2 [.ref a, .int (nI k), .int (nI j)] [] h = some (some (.int (if ∀ q, q < q_nq c → ¬ q_ls c (sG h a) q k < 0 then 1 else 0)), h) := by
  have hc := S.c3
  have hq8 := q_nq_le hc
  intro d
  induction d with
  | zero =>
    intro j hj hall
    rw [am_b58_2, if_pos S.1, s_inequalities S]
    simp only [am_bI, q_lt (show j < 2 ^ 31 by omega) (show q_nq c < 2 ^ 31 by omega)]
    rw [if_neg (by omega), if_pos (by rw [show q_nq c = j by omega]; exact hall)]
  | succ d ih =>
    intro j hj hall
    rw [am_b58_2, if_pos S.1, s_inequalities S]
    simp only [am_bI, q_lt (show j < 2 ^ 31 by omega) (show q_nq c < 2 ^ 31 by omega)]
    rw [if_pos (by omega), if_pos S.1, s_loss S (by omega) hk]
    simp only [nI_S]
    by_cases h1 : q_ls c (sG h a) j k < 0
    · rw [if_pos h1, if_neg (fun z => z j (by omega) h1)]
    · rw [if_neg h1]
      refine ih (j + 1) (by omega) (fun q hq => ?_)
      by_cases e : q = j
      · rw [e]; exact h1
      · exact hall q (by omega)
theorem s_isSure (S : sS h a c) {k : Nat} (hk : k < 2 * c) : am_ev 58 0 [.ref a, .int (nI k), am_ph] [] h = some (some (.int (if ∀ q, q < q_nq c → ¬ q_ls c (sG h a) q k < 0 then 1 else 0)), h) := by
  rw [am_b58_0]
  exact s_isSure2 S hk (q_nq c) 0 (by omega) (fun q hq => absurd hq (Nat.not_lt_zero _))
theorem s_sumOf10 {w n : Nat} (hw : am_kd h w = 5) (hl : am_ln h w = n) (hn : n < 2 ^ 31) : ∀ (d j : Nat), j + d = n → am_ev 94 10 [am_ph, .int (q_sum j (am_I h w)), .ref w, .int (nI n), .int (nI j), am_ph] [] h = some (some (.int (q_sum n (am_I h w))), h) := by
  intro d
  induction d with
  | zero =>
    intro j hj
    rw [am_b94_10]
    simp only [q_lt (show j < 2 ^ 31 by omega) (show n < 2 ^ 31 by omega)]
    rw [if_neg (by omega), show j = n by omega]
  | succ d ih =>
    intro j hj
    rw [am_b94_10]
    simp only [q_lt (show j < 2 ^ 31 by omega) (show n < 2 ^ 31 by omega), q_neg (show j < 2 ^ 31 by omega), hw, hl, nI_clamp (show j < 2 ^ 31 by omega)]
    rw [if_pos (by omega), if_pos (by simp; omega)]
    simp only [nI_S]
    exact ih (j + 1) (by omega)
theorem s_sumOf {w n : Nat} (hw : am_kd h w = 5) (hl : am_ln h w = n) (hn : n < 2 ^ 31) : am_ev 94 0 [.ref w, am_ph, am_ph, am_ph, am_ph, am_ph] [] h = some (some (.int (q_sum n (am_I h w))), h) := by
  rw [am_b94_0, hw, if_pos (by omega), hl]
  exact s_sumOf10 hw hl hn n 0 (by omega)
end state2
