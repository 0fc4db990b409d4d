/-! ===== the law's isThrown: the accounts ===== -/
section thrown2
variable {L : Nat} {xs : Nat → Int32} {A B : QA} {n : Nat}
theorem l39 {F W : Nat → Nat} {c : Nat} (hc : c = A.1.1) (hF : ∀ k, k < 6 → A.1.2.2.2.2 k = nI (F k) ∧ F k ≤ 1000 ∧ (0 < F k → 0 < W k)) (hW : ∀ k, k < 6 → A.1.2.2.2.1 k = nI (W k) ∧ W k ≤ 999) {x had last : Int32} : ∀ (d j : Nat) (H : AH), j + d = 2 * c → lw L xs n H A B → ∃ H1, am_ev 102 39 [.ref 1, .int x, .int had, .int last, .int (nI (q_ns j F)), .int (nI c), .int (nI j), am_ph] [] H = am_ev 102 39 [.ref 1, .int x, .int had, .int last, .int (nI (q_ns (2 * c) F)), .int (nI c), .int (nI (2 * c)), am_ph] [] H1 ∧ lw L xs n H1 A B := by
  subst hc
  intro d
  induction d with
  | zero =>
    intro j H hj J
    obtain rfl : j = 2 * A.1.1 := by omega
    exact ⟨H, rfl, J⟩
  | succ d ih =>
    intro j H hj J
    have h3 := J.wo.1.c3
    have f := hF j (by omega)
    have w := hW j (by omega)
    obtain ⟨H1, e1, J1⟩ := lo_cell J (nI (j / A.1.1)) (nI (j % A.1.1)) 3
    rw [f_cell3 h3 (by omega), f.1] at e1
    have n0 : ¬ nI A.1.1 = 0 := by rw [← nI_0, nI_eq (by omega) (by omega)]; omega
    have head : am_ev 102 39 [.ref 1, .int x, .int had, .int last, .int (nI (q_ns j F)), .int (nI A.1.1), .int (nI j), am_ph] [] H = am_bI (am_ev 69 0 [.ref 1, .int (nI (j / A.1.1)), .int (nI (j % A.1.1)), .int (3 : Int32), am_ph] [] H) (fun x2 h1 => if 0 < x2 then am_bI (am_ev 69 0 [.ref 1, .int (nI (j / A.1.1)), .int (nI (j % A.1.1)), .int (2 : Int32), am_ph] [] h1) (fun x4 h3 => if x4 = 0 then am_ev 102 39 [.ref 1, .int x, .int (-1 : Int32), .int last, .int (nI (q_ns j F) + x2), .int (nI A.1.1), .int (nI j + (1 : Int32)), am_ph] [] h3 else am_ev 102 39 [.ref 1, .int x, .int had, .int last, .int (nI (q_ns j F) + x2), .int (nI A.1.1), .int (nI j + (1 : Int32)), am_ph] [] h3) else am_ev 102 39 [.ref 1, .int x, .int had, .int last, .int (nI (q_ns j F) + x2), .int (nI A.1.1), .int (nI j + (1 : Int32)), am_ph] [] h1) := by
      rw [am_b102_39, show (2 : Int32) * nI A.1.1 = nI (2 * A.1.1) from by rw [show (2 : Int32) = nI 2 from rfl, pk_mul], if_pos (i_lt (by omega) (by omega)), if_neg n0, if_neg n0, if_pos J.k1, pk_div (by omega) (by omega) (by omega), i_rem (by omega) (by omega) (by omega), e1, x_bI, x_bI]
      by_cases c : 0 < nI (F j)
      · rw [if_pos c, if_pos c, if_neg n0, if_neg n0, if_pos J1.k1]
      · rw [if_neg c, if_neg c]
    rw [head, e1, x_bI, nI_add, nI_1, ← q_ns_s]
    by_cases c : 0 < F j
    · obtain ⟨H2, e2, J2⟩ := lo_cell J1 (nI (j / A.1.1)) (nI (j % A.1.1)) 2
      rw [f_cell2 h3 (by omega), w.1] at e2
      have hw := f.2.2 c
      rw [if_pos (by rw [← nI_0]; exact i_lt (by omega) c), e2, x_bI, if_neg (by rw [← nI_0, nI_eq (by omega) (by omega)]; omega)]
      exact ih (j + 1) H2 (by omega) J2
    · rw [if_neg (by rw [← nI_0]; exact i_nlt (by omega) (by omega) (by omega))]
      exact ih (j + 1) H1 (by omega) J1
theorem l_thrown {H : AH} (J : lw L xs n H A B) (x : Int32) : ∃ H1 A', am_ev 102 0 [.ref 1, .int x, am_ph, am_ph, am_ph, am_ph, am_ph, am_ph] [] H = some (some (.int 1), H1) ∧ lw L xs (n + 1 + 1 + 1) H1 A' B := by
  have w := J.wo.1
  have h3 := w.c3
  have ht := ups_lt x (m := 100000) (by omega)
  have hu := ups_lt (x >>> ((5 : Int32) &&& 31)) (m := 40) (by omega)
  generalize et : ups x 100000 = t at ht
  generalize eu : ups (x >>> ((5 : Int32) &&& 31)) 40 = u at hu
  have eT : (nI t).toInt = t := nI_toInt (by omega)
  have eU : (nI (1 + u)).toInt = ((1 + u : Nat) : Int) := nI_toInt (by omega)
  -- forget
  obtain ⟨H1, e1, J1⟩ := lo_forget J (nI t)
  obtain ⟨m0, -, m1, m2⟩ := w.sumF
  have fv : f_forget A (nI t) = nI m0 := by unfold f_forget; rw [if_pos (by omega), m1]
  have gv : g_forget A (nI t) = ((A.1.1, nI t, A.1.2.2.1, A.1.2.2.2.1, fun _ => 0), q_rec A, A.2.2) := by unfold g_forget; rw [if_pos (by omega)]
  rw [fv] at e1
  rw [gv] at J1
  generalize eA1 : (((A.1.1, nI t, A.1.2.2.1, A.1.2.2.2.1, fun _ => 0), q_rec A, A.2.2) : QA) = A1 at J1
  have a1 : A1.1 = (A.1.1, nI t, A.1.2.2.1, A.1.2.2.2.1, fun _ => 0) := by rw [← eA1]
  -- roll
  obtain ⟨H2, e2, J2⟩ := lo_roll J1 (nI (1 + u))
  have z7 : q_sum (2 * A1.1.1) A1.1.2.2.2.2 = nI 0 := by
    rw [a1]
    rw [q_ns_sum (F := fun _ => 0) (fun k _ => nI_0.symm)]
    have z : q_ns (2 * A.1.1) (fun _ => 0) = 0 := Nat.le_zero.1 (q_ns_le (m := 0) (fun _ _ => Nat.le_refl 0))
    exact congrArg nI z
  have no : ¬ (1000 : Int32) < q_sum (2 * A1.1.1) A1.1.2.2.2.2 + nI (1 + u) := by
    rw [z7, nI_add, show (1000 : Int32) = nI 1000 from rfl]
    exact i_nlt (by omega) (by omega) (by omega)
  have fr : f_roll A1 (nI (1 + u)) = nI (q_thrs (1 + u) (A1.1, 0)).2 := by
    unfold f_roll
    rw [if_pos (by rw [eU]; omega), if_neg no, i_vI (by omega)]
  have gr : g_roll A1 (nI (1 + u)) = ((q_thrs (1 + u) (A1.1, 0)).1, q_rec A1, A1.2.2) := by
    unfold g_roll
    rw [if_pos ⟨by rw [eU]; omega, no⟩, i_vI (by omega)]
  rw [fr] at e2
  rw [gr] at J2
  obtain ⟨W, W1, W2⟩ := w.2.1
  have hW : ∀ k, k < 6 → A1.1.2.2.2.1 k = nI (W k) ∧ (2 * A1.1.1 ≤ k → W k = 0) := fun k hk => by
    rw [a1]
    exact ⟨(W1 k hk).1, (W1 k hk).2.2⟩
  have hW5 : q_ns 6 W ≤ 5994 := q_ns_le (m := 999) (fun k hk => (W1 k hk).2.1)
  have T := thI.many (s0 := A1.1) (W := W) (by rw [a1]; exact h3) hW ⟨W2, hW5⟩ (1 + u) 0 (A1.1, 0) ⟨rfl, rfl, rfl, by rw [a1]; show 0 ≤ (nI t).toInt; omega, fun _ => 0, fun k _ => ⟨by rw [a1]; exact nI_0.symm, fun _ => rfl, fun z => absurd z (Nat.lt_irrefl 0)⟩, rfl⟩ (by omega) (Or.inl (by omega))
  generalize eX : q_thrs (1 + u) (A1.1, 0) = X at T e2 J2
  obtain ⟨⟨t1, t2, t3, t4, F, F1, F2⟩, l1, fl, l2, l3, l4⟩ := T
  generalize eA2 : ((X.1, q_rec A1, A1.2.2) : QA) = A2 at J2
  have a2 : A2.1 = X.1 := by rw [← eA2]
  have c2 : A2.1.1 = A.1.1 := by rw [a2, t1, a1]
  have h32 : A2.1.1 = 2 ∨ A2.1.1 = 3 := by rw [c2]; exact h3
  have hF : ∀ k, k < 6 → A2.1.2.2.2.2 k = nI (F k) ∧ F k ≤ 1000 ∧ (0 < F k → 0 < W k) := fun k hk => by
    rw [a2]
    have := q_ns_ge (F := F) hk
    exact ⟨(F1 k hk).1, by omega, (F1 k hk).2.2⟩
  have hW2 : ∀ k, k < 6 → A2.1.2.2.2.1 k = nI (W k) ∧ W k ≤ 999 := fun k hk => by
    rw [a2, t3, a1]
    exact ⟨(W1 k hk).1, (W1 k hk).2.1⟩
  have F6 : q_ns (2 * A.1.1) F = 1 + u := by
    rw [q_ns_6 h3 (fun k hk hc => (F1 k hk).2.1 (by rw [a1]; exact hc)), F2]
    omega
  have l1' : X.2 < 2 * A.1.1 := by have := l1; rw [a1] at this; exact this
  -- the cells
  obtain ⟨H3, e3, J3⟩ := lo_count J2 0
  obtain ⟨H4, e4, J4⟩ := l39 (A := A2) (F := F) (W := W) (c := A.1.1) (x := x) (had := nI m0) (last := nI X.2) c2.symm hF hW2 (2 * A.1.1) 0 H3 (by omega) J3
  have q0 : q_ns 0 F = 0 := rfl
  rw [q0, nI_0] at e4
  -- the accounts
  obtain ⟨H5, e5, J5⟩ := lo_count J4 7
  obtain ⟨H6, e6, J6⟩ := lo_cell J5 (nI (X.2 / A.1.1)) (nI (X.2 % A.1.1)) 3
  have v6 : f_cell A2 (nI (X.2 / A.1.1)) (nI (X.2 % A.1.1)) 3 = nI fl := by
    have := f_cell3 (A := A2) h32 (k := X.2) (by rw [c2]; exact l1')
    rw [c2] at this
    rw [this, a2, l4]
  rw [v6] at e6
  have v7 : f_count A2 7 = nI (1 + u) := by
    rw [f_count7, c2, q_ns_sum (F := F) (fun k hk => (hF k (by omega)).1), F6]
  rw [v7] at e5
  obtain ⟨H7, e7, J7⟩ := lo_undo J6
  have r2 : A2.2.1 = q_rec A1 := by rw [← eA2]
  have rn : (q_rec A1).1 = q_recN A1.2.1.1 := rfl
  have r0 : 0 < A2.2.1.1 := by
    rw [r2, rn]
    unfold q_recN
    split <;> omega
  have uv : f_undo A2 = nI (A2.2.1.1 - 1) := by unfold f_undo; rw [if_neg (by omega)]
  have ug : (g_undo A2).1 = A1.1 := by
    unfold g_undo
    rw [if_neg (by omega), r2]
    show q_recH A1.2.1.1 A1.2.1.2 A1.1 (q_recN A1.2.1.1 - 1) = A1.1
    unfold q_recH q_recN
    by_cases e : A1.2.1.1 = 6
    · rw [if_pos e, if_pos e, if_pos rfl]
    · rw [if_neg e, if_neg e, if_pos (by omega)]
  rw [uv] at e7
  have hr6 : A2.2.1.1 ≤ 6 := J2.wo.2.1
  obtain ⟨H8, e8, J8⟩ := lo_count J7 7
  obtain ⟨H9, e9, J9⟩ := lo_count J8 8
  have z0 : ∀ k, (g_undo A2).1.2.2.2.2 k = 0 := fun k => by rw [ug, a1]
  have v8 : f_count (g_undo A2) 7 = 0 := by
    rw [f_count7, ug, z7, nI_0]
  have v9 : f_count (g_undo A2) 8 = (100000 : Int32) := by
    rw [f_count8, q_sum_congr (g := fun _ => nI 0) (fun k _ => by rw [z0 k, Int32.zero_mul]; exact nI_0.symm), q_ns_sum (F := fun _ => 0) (fun _ _ => rfl)]
    have z : q_ns (2 * (g_undo A2).1.1) (fun _ => 0) = 0 := Nat.le_zero.1 (q_ns_le (m := 0) (fun _ _ => Nat.le_refl 0))
    rw [z, nI_0, Int32.zero_add]
  obtain ⟨K, eK, JK⟩ := l190 z0 (q_nq (g_undo A2).1.1) 0 H9 (by omega) J9
  rw [nI_0] at eK
  refine ⟨K, _, ?_, JK⟩
  have n0 : ¬ nI A.1.1 = 0 := by rw [← nI_0, nI_eq (by omega) (by omega)]; omega
  have hu1 : (1 : Int32) + nI u = nI (1 + u) := by rw [show (1 : Int32) = nI 1 from rfl, nI_add]
  rw [am_b102_0, l_upT, x_bI, et, if_pos J.k1, e1, x_bI, l_up40, x_bI, eu, hu1, if_pos J1.k1, e2, x_bI, if_pos J2.k1, e3, x_bI, f_count0, c2, e4]
  rw [am_b102_39, show (2 : Int32) * nI A.1.1 = nI (2 * A.1.1) from by rw [show (2 : Int32) = nI 2 from rfl, pk_mul], if_neg (i_nlt (by omega) (by omega) (by omega)), if_neg (nI_pos (by omega)), if_pos J4.k1, e5, x_bI, F6, if_pos rfl, l_up40, x_bI, eu, hu1, if_pos rfl, if_neg n0, if_neg n0, if_pos J5.k1, pk_div (by omega) (by omega) (by omega), i_rem (by omega) (by omega) (by omega), e6, x_bI, if_pos (by rw [← nI_0]; exact i_lt (by omega) l2), if_pos J6.k1, e7, x_bI, if_neg (nI_pos (by omega)), if_pos J7.k1, e8, x_bI, if_pos v8, if_pos J8.k1, e9, x_bI, if_pos v9]
  exact eK
end thrown2
