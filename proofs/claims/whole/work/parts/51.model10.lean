/-! ===== the Model: sure cells, accounts, worth ===== -/
def q_or (n : Nat) (f : Nat → Int32) : Int32 := match n with
  | 0 => 0
  | n + 1 => q_or n f ||| f n
theorem q_or_congr {n : Nat} {f g : Nat → Int32} (h : ∀ k, k < n → f k = g k) : q_or n f = q_or n g := by
  induction n with
  | zero => rfl
  | succ n ih =>
    unfold q_or
    rw [ih (fun k hk => h k (by omega)), h n (by omega)]
theorem q_sum_s (n : Nat) (f : Nat → Int32) : q_sum (n + 1) f = q_sum n f + f n := rfl
theorem j_sum_s (n : Nat) (f : Nat → Int64) : j_sum (n + 1) f = j_sum n f + f n := rfl
theorem q_or_s (n : Nat) (f : Nat → Int32) : q_or (n + 1) f = q_or n f ||| f n := rfl
def q_set (k : Nat) : Int32 := (1 : Int32) <<< (nI k &&& 31)
theorem q_or0 (x : Int32) : x ||| 0 = x := Int32.or_zero
def f_sure (A : QA) : Int32 := q_or (2 * A.1.1) fun k => if q_sure A.1.1 (q_g A.1) k = 0 then 0 else q_set k
section model10
variable {h : AH} {A : QA}
/-- the memory behind the questions for j cells -/
def mKc (h : AH) (c j : Nat) : AH := if j = 0 then h else mKs h c (q_nq c)
theorem mKs_Ks {c j : Nat} : mKs (mKs h c j) c (q_nq c) = mKs h c (q_nq c) ∨ q_nq c = 0 := by
  by_cases e : q_nq c = 0
  · exact Or.inr e
  · left
    unfold mKs
    rw [if_neg e, if_neg e]
    by_cases e2 : j = 0
    · rw [if_pos e2]
    · rw [if_neg e2, mK_mK]
theorem m_sure4 (I : mI h A) : ∀ (d j : Nat), j + d = 2 * A.1.1 → am_ev 155 4 [.ref 20, .int (q_or j fun k => if q_sure A.1.1 (q_g A.1) k = 0 then 0 else q_set k), .int (nI j)] [] (mKc h A.1.1 j) = some (some (.int (f_sure A)), mKc h A.1.1 (2 * A.1.1)) := by
  have h6 := I.c6
  have hq8 := q_nq_le I.c3
  have IK : ∀ j, mI (mKc h A.1.1 j) A := fun j => by unfold mKc; split; exact I; exact I.Ks
  have es : ∀ j, mKs (mKc h A.1.1 j) A.1.1 (q_nq A.1.1) = mKc h A.1.1 (j + 1) := by
    intro j
    show _ = (if j + 1 = 0 then h else _)
    rw [if_neg (by omega)]
    unfold mKc
    by_cases e : j = 0
    · rw [if_pos e]
    · rw [if_neg e]
      exact (mKs_Ks (h := h) (c := A.1.1) (j := q_nq A.1.1)).resolve_right (by omega)
  intro d
  induction d with
  | zero =>
    intro j hj
    rw [am_b155_4, if_pos (IK j).1.k, m_cells (IK j).1 (IK j).c, x_bI, if_neg (by rw [x_lt (by omega) (by omega)]; omega), show j = 2 * A.1.1 by omega]
    rfl
  | succ d ih =>
    intro j hj
    have e := m_isSure (IK j).1 (IK j).c I.c3 (show j < 2 * A.1.1 by omega)
    rw [es, q_sure_congr I.c3 (by omega) (IK j).G'] at e
    have i := ih (j + 1) (by omega)
    rw [am_b155_4, if_pos (IK j).1.k, m_cells (IK j).1 (IK j).c, x_bI, if_pos (by rw [x_lt (by omega) (by omega)]; omega), if_pos (IK j).1.k, e, x_bI]
    rw [q_or_s] at i
    by_cases e2 : q_sure A.1.1 (q_g A.1) j = 0
    · rw [if_pos e2, nI_S]
      rw [if_pos e2] at i
      exact i
    · rw [if_neg e2, nI_S]
      rw [if_neg e2] at i
      exact i
theorem m_sure (I : mI h A) (X : mE h A.1) : ∃ h1, am_ev 155 0 [.ref 20, am_ph, am_ph] [] h = some (some (.int (f_sure A)), h1) ∧ mI h1 A ∧ mfr h h1 ∧ mE h1 A.1 := by
  refine ⟨mKc h A.1.1 (2 * A.1.1), ?_, ?_, ?_, ?_⟩
  · rw [am_b155_0]
    exact m_sure4 I (2 * A.1.1) 0 (by omega)
  · unfold mKc; split; exact I; exact I.Ks
  · unfold mKc; split; exact am_fr.rf; exact mfr_Ks
  · unfold mKc; split; exact X; exact X.kp mxk_Ks rfl rfl
theorem m_got4 (I : mI h A) {p : Nat} (hp : p < 2) : ∀ (d j : Nat), j + d = 2 * A.1.1 → am_ev 146 4 [.ref 20, .int (nI p), .int (q_sum j fun k => A.1.2.2.2.2 k * q_gb (q_g A.1) p k), .int (nI j)] [] h = some (some (.int (q_sum (2 * A.1.1) fun k => A.1.2.2.2.2 k * q_gb (q_g A.1) p k)), h) := by
  have h6 := I.c6
  have m := I.1
  intro d
  induction d with
  | zero =>
    intro j hj
    rw [am_b146_4, if_pos m.k, m_cells m I.c, x_bI, if_neg (by rw [x_lt (by omega) (by omega)]; omega), show j = 2 * A.1.1 by omega]
  | succ d ih =>
    intro j hj
    have i := ih (j + 1) (by omega)
    rw [q_sum_s] at i
    rw [am_b146_4, if_pos m.k, m_cells m I.c, x_bI, if_pos (by rw [x_lt (by omega) (by omega)]; omega), if_pos m.k, m.r0, x_oe, x_c20, nI_add, if_pos (x_rd m.k0 m.l0 (by omega) (by omega)), if_pos m.k, m_pointsOf m hp (by omega), x_bI, x_cl (by omega), I.F (by omega), nI_S]
    have eg : am_I h 21 (2 + 6 * p + j) = q_gb (q_g A.1) p j := by
      unfold q_gb
      rw [if_neg (by omega)]
      exact I.G hp (by omega)
    rw [eg]
    exact i
theorem m_got (I : mI h A) {p : Nat} (hp : p < 2) : am_ev 146 0 [.ref 20, .int (nI p), am_ph, am_ph] [] h = some (some (.int (q_sum (2 * A.1.1) fun k => A.1.2.2.2.2 k * q_gb (q_g A.1) p k)), h) := by
  rw [am_b146_0]
  exact m_got4 I hp (2 * A.1.1) 0 (by omega)
theorem m_pointsFor (I : mI h A) {p k : Nat} (hp : p < 3) (hk : k < 6) : am_ev 149 0 [.ref 20, .int (nI p), .int (nI k)] [] h = some (some (.int (q_gb (q_g A.1) p k)), h) := by
  have m := I.1
  have eg : ∀ p, p < 2 → am_I h 21 (2 + 6 * p + k) = q_g A.1 p k := fun p hp => I.G hp hk
  unfold q_gb
  rw [am_b149_0, x_c2]
  simp only [x_eq (show p < 2147483648 by omega) (show 2 < 2147483648 by omega)]
  by_cases e : p = 2
  · rw [if_pos e, if_pos e, if_pos m.k, show (.int (0 : Int32) : Value) = .int (nI 0) from rfl, m_pointsOf m (by omega) hk, x_bI, if_pos m.k, x_c1, m_pointsOf m (by omega) hk, x_bI, eg 0 (by omega), eg 1 (by omega)]
  · rw [if_neg e, if_neg e, if_pos m.k, m_pointsOf m (by omega) hk, x_bI, eg p (by omega)]
def f_worth (A : QA) (x : Int32) : Int32 := if 0 ≤ x.toInt ∧ x.toInt ≤ 2 then q_thou (q_sum (2 * A.1.1) fun k => A.1.2.2.2.1 k * q_gb (q_g A.1) (q_vI x) k).toInt64 (q_sum (2 * A.1.1) A.1.2.2.2.1).toInt64 else -2
theorem q_gb_rng {s : QS} (w : q_wf s) {p k : Nat} (hp : p < 3) (hk : k < 6) : -18 ≤ (q_gb (q_g s) p k).toInt ∧ (q_gb (q_g s) p k).toInt ≤ 18 := by
  have r : ∀ p, p < 2 → -9 ≤ (q_g s p k).toInt ∧ (q_g s p k).toInt ≤ 9 := fun p hp => w.2.2.2 _ (by omega)
  unfold q_gb
  by_cases e : p = 2
  · rw [if_pos e]
    have := r 0 (by omega)
    have := r 1 (by omega)
    rw [i_add] <;> omega
  · rw [if_neg e]
    have := r p (by omega)
    omega
theorem q_w_rng {s : QS} (w : q_wf s) {k : Nat} (hk : k < 6) : 0 ≤ (s.2.2.2.1 k).toInt ∧ (s.2.2.2.1 k).toInt ≤ 999 := by
  obtain ⟨W, w1, -⟩ := w.2.1
  have := w1 k hk
  rw [this.1, nI_toInt (by omega)]
  omega
theorem q_wsum_pos {s : QS} (w : q_wf s) : 0 < (q_sum (2 * s.1) s.2.2.2.1).toInt64.toInt := by
  obtain ⟨n, -, n2, n3, n4⟩ := w.sumW
  rw [n2, x_l, nI_toInt (by omega)]
  omega
theorem m_worth20 (I : mI h A) (w : q_wf A.1) {p : Nat} (hp : p < 3) : ∀ (d j : Nat), j + d = 2 * A.1.1 → am_ev 150 20 [.ref 20, .int (nI p), .long (j_sum j fun k => (A.1.2.2.2.1 k).toInt64 * (q_gb (q_g A.1) p k).toInt64), am_ph, .int (nI j)] [] h = some (some (.int (q_thou (q_sum (2 * A.1.1) fun k => A.1.2.2.2.1 k * q_gb (q_g A.1) p k).toInt64 (q_sum (2 * A.1.1) A.1.2.2.2.1).toInt64)), h) := by
  have h6 := I.c6
  have m := I.1
  intro d
  induction d with
  | zero =>
    intro j hj
    obtain rfl : j = 2 * A.1.1 := by omega
    rw [am_b150_20, if_pos m.k, m_cells m I.c, x_bI, if_neg (by rw [x_lt (by omega) (by omega)]; omega), if_pos m.k, m_sumOfWeights m I.c I.c3, x_bI, I.sW, m_divide (q_wsum_pos w), x_bJ, (q_jsum h6 (fun k hk => q_w_rng w (by omega)) (fun k hk => q_gb_rng w hp (by omega))).1]
    rfl
  | succ d ih =>
    intro j hj
    have i := ih (j + 1) (by omega)
    rw [j_sum_s] at i
    rw [am_b150_20, if_pos m.k, m_cells m I.c, x_bI, if_pos (by rw [x_lt (by omega) (by omega)]; omega), if_pos m.k, m.r0, x_oe, x_c14, nI_add, if_pos (x_rd m.k0 m.l0 (by omega) (by omega)), if_pos m.k, m_pointsFor I hp (by omega), x_bI, x_cl (by omega), I.W (by omega), nI_S]
    exact i
theorem m_worth (I : mI h A) (X : mE h A.1) (w : q_wf A.1) (x : Int32) : ∃ h1, am_ev 150 0 [.ref 20, .int x, am_ph, am_ph, am_ph] [] h = some (some (.int (f_worth A x)), h1) ∧ mI h1 A ∧ mfr h h1 ∧ mE h1 A.1 := by
  refine ⟨h, ?_, I, am_fr.rf, X⟩
  rw [am_b150_0, m_in (p := 0) (q := 2) rfl rfl, x_bI, x_ite]
  unfold f_worth
  by_cases h1 : 0 ≤ x.toInt ∧ x.toInt ≤ 2
  · rw [if_pos h1, if_pos h1]
    obtain ⟨p, rfl, ep, -⟩ := q_nI h1.1
    have ev : q_vI (nI p) = p := by unfold q_vI; omega
    rw [ev]
    exact m_worth20 I w (by omega) (2 * A.1.1) 0 (by omega)
  · rw [if_neg h1, if_neg h1]
end model10
