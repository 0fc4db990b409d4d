/-! ===== the law ===== -/
section law
variable {L : Nat} {xs : Nat → Int32}
theorem l65 (hL : L ≤ 260) {y : Nat} (hy : y < 12) {B0 : QA} : ∀ (d k n : Nat) (H : AH) (A B : QA), k + d = 38 → 2 ≤ k → lw L xs n H A B → wS y A.1 B.1 → ∃ H1 A' B', am_ev 165 65 [.ref 0, .ref 1, .ref 20, .int (nI y), am_ph, .int 1, .int (nI k)] [] H = am_ev 165 140 [.ref 0, .ref 1, .ref 20, .int (nI y), am_ph, .int 1, am_ph] [] H1 ∧ lw L xs (n + 2 * d) H1 A' B' ∧ wS y A'.1 B'.1 := by
  intro d
  induction d with
  | zero =>
    intro k n H A B hk _ J S
    obtain rfl : k = 38 := by omega
    refine ⟨H, A, B, ?_, J, S⟩
    rw [am_b165_65, if_neg (show ¬ nI 38 < (38 : Int32) by decide)]
  | succ d ih =>
    intro k n H A B hk hk2 J S
    obtain ⟨v, hv⟩ := l_cell J hL (k := k) (by omega)
    obtain ⟨H1, A1, B1, e1, J1, S1, -⟩ := l_step J S hy v
    have c1 := hv rfl J
    have c2 := hv rfl J1
    have hrem : nI k - nI k / (18 : Int32) * (18 : Int32) = nI (k % 18) := by rw [show (18 : Int32) = nI 18 from rfl, pk_rem (by omega) (by omega) (by omega)]
    rw [am_b165_65, if_pos (show nI k < (38 : Int32) from i_lt (b := 38) (by omega) (by omega)), if_neg (by decide), c1, x_bI, e1, x_bI, if_neg (by decide), hrem]
    by_cases c : 0 < k % 18
    · rw [if_pos (by rw [← nI_0]; exact i_lt (by omega) c), nI_1]
      obtain ⟨H2, A2, B2, e2, J2, S2⟩ := ih (k + 1) (n + 1 + 1) H1 A1 B1 (by omega) (by omega) J1 S1
      exact ⟨H2, A2, B2, e2, by rw [show n + 2 * (d + 1) = n + 1 + 1 + 2 * d by omega]; exact J2, S2⟩
    · have hf := ups_lt (v >>> ((9 : Int32) &&& 31)) (m := 100) (by omega)
      obtain ⟨H3, e3, J3⟩ := l_alike J1 S1 hy hf
      rw [if_neg (by rw [← nI_0]; exact i_nlt (by omega) (by omega) (by omega)), c2, x_bI, l_up100, x_bI, e3, x_bI, if_neg (by decide), nI_1]
      obtain ⟨H2, A2, B2, e2, J2, S2⟩ := ih (k + 1) (n + 1 + 1) H3 A1 B1 (by omega) (by omega) J3 S1
      exact ⟨H2, A2, B2, e2, by rw [show n + 2 * (d + 1) = n + 1 + 1 + 2 * d by omega]; exact J2, S2⟩
theorem l140 (hL : L ≤ 260) {y n : Nat} {H : AH} {A B : QA} (hy : y < 12) (J : lw L xs n H A B) (S : wS y A.1 B.1) : ∃ H1 A' B', am_ev 165 140 [.ref 0, .ref 1, .ref 20, .int (nI y), am_ph, .int 1, am_ph] [] H = some (some (.int 1), H1) ∧ lw L xs (n + 8) H1 A' B' := by
  obtain ⟨v1, c1⟩ := l_cell J hL (k := 40) (by omega)
  have hf := ups_lt v1 (m := 100) (by omega)
  obtain ⟨H1, e1, J1⟩ := l_alike J S hy hf
  obtain ⟨v2, c2⟩ := l_cell J1 hL (k := 38) (by omega)
  obtain ⟨H2, A2, e2, J2⟩ := l_mixed J1 v2
  obtain ⟨v3, c3⟩ := l_cell J2 hL (k := 39) (by omega)
  obtain ⟨H3, A3, e3, J3⟩ := l_thrown J2 v3
  refine ⟨H3, A3, B, ?_, J3⟩
  have d1 := c1 rfl J
  have d2 := c2 rfl J1
  have d3 := c3 rfl J2
  rw [am_b165_140, if_neg (by decide), show (40 : Int32) = nI 40 from rfl, d1, x_bI, l_up100, x_bI, e1, x_bI, if_neg (by decide), show (38 : Int32) = nI 38 from rfl, d2, x_bI, e2, x_bI, if_neg (by decide), show (39 : Int32) = nI 39 from rfl, d3, x_bI, e3, x_bI, if_neg (by decide)]
theorem l_law : am_Law := by
  intro L xs hL
  obtain ⟨M, N, e1, lM, k20, e2, J0⟩ := l_start2 (L := L) (xs := xs)
  obtain ⟨v0, c0⟩ := l_cell J0 hL (k := 0) (by omega)
  obtain ⟨v1, c1⟩ := l_cell J0 hL (k := 1) (by omega)
  have hy := ups_lt v0 (m := 12) (by omega)
  have hj := ups_lt v1 (m := 2) (by omega)
  generalize ey : ups v0 12 = y at hy
  generalize ej : ups v1 2 = j at hj
  obtain ⟨H1, f1, J1⟩ := lo_begin J0 (nI (2 + j))
  obtain ⟨H2, f2, J2⟩ := lp_begin J1 (nI (2 + j))
  have e2j : (nI (2 + j)).toInt = ((2 + j : Nat) : Int) := nI_toInt (by omega)
  have gb : g_begin q_A0 (nI (2 + j)) = (q_new (2 + j) q_A0.1.2.1, q_rec q_A0, q_A0.2.2) := by
    unfold g_begin
    rw [if_pos (by rw [e2j]; omega), e2j]
    rfl
  have S : wS y (g_begin q_A0 (nI (2 + j))).1 (g_begin q_A0 (nI (2 + j))).1 := by
    rw [gb]
    have h3 : 2 + j = 2 ∨ 2 + j = 3 := by omega
    have F := (w_fin hy h3).1
    refine ⟨rfl, fun p _ k _ => rfl, fun k hk => ?_, fun k _ => rfl⟩
    show (if w_k y (2 + j) k < 2 * (2 + j) then (1 : Int32) else 0) = if k < 2 * (2 + j) then 1 else 0
    have hk : k < 2 * (2 + j) := hk
    rw [if_pos (F k hk).1, if_pos hk]
  obtain ⟨H3, A3, B3, f3, J3, S3⟩ := l65 hL hy (B0 := q_A0) 36 2 _ H2 _ _ (by omega) (by omega) J2 S
  obtain ⟨H4, A4, B4, f4, J4⟩ := l140 hL hy J3 S3
  have d0 := c0 rfl J0
  have d1 := c1 rfl J0
  have kk1 : am_kd (am_nw (am_h0 L xs) 3 6) 1 = 3 := rfl
  have n0 : (am_h0 L xs).1.length = 1 := rfl
  refine ⟨H4, ?_, ?_, ?_⟩
  · rw [am_b165_0]
    dsimp only
    rw [n0, if_pos kk1, e1, x_bV, lM, if_pos k20, e2, x_bV]
    rw [show am_ev 95 0 [Value.ref 0, Value.int (0 : Int32)] [] N = _ from d0, x_bI, l_up12, x_bI, ey, show am_ev 95 0 [Value.ref 0, Value.int (1 : Int32)] [] N = _ from d1, x_bI, l_up2, x_bI, ej, show (2 : Int32) + nI j = nI (2 + j) from by rw [show (2 : Int32) = nI 2 from rfl, nI_add], if_pos J0.k1, f1, x_bI, if_pos J1.k20, f2, x_bI, if_pos rfl]
    exact f3.trans f4
  · have := J4.2.2.1
    omega
  · have := J4.2.2.2
    omega
end law
