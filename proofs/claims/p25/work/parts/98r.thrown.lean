/-! ===== the law's isThrown ===== -/
theorem q_next_nn {x : Int32} (h : 0 ≤ x.toInt) : 0 ≤ (q_next x).toInt := by
  rw [← q_next_eq]
  have hx : x.toInt < 2147483648 := Int32.toInt_lt x
  have m1 : (Int32.toInt64 x * (1103515245 : Int64)).toInt = x.toInt * 1103515245 := by
    rw [y_mul] <;> rw [x_l, show (1103515245 : Int64).toInt = 1103515245 from rfl] <;> omega
  have m2 : (Int32.toInt64 x * (1103515245 : Int64) + (12345 : Int64)).toInt = x.toInt * 1103515245 + 12345 := by
    rw [y_add] <;> rw [m1, show (12345 : Int64).toInt = 12345 from rfl] <;> omega
  have hb : (0 : Int) < (2147483648 : Int64).toInt := by decide
  have m3 := y_rem (a := Int32.toInt64 x * (1103515245 : Int64) + (12345 : Int64)) hb
  have t := y_tm (x := x.toInt * 1103515245 + 12345) (y := (2147483648 : Int64).toInt) hb
  rw [m2] at m3
  rw [Int64.toInt_toInt32, m3, Int.bmod_def]
  have e : (2147483648 : Int64).toInt = 2147483648 := rfl
  rw [e] at t ⊢
  have t0 := t.2.2.1 (by omega)
  have t1 := t.2.1
  omega
theorem q_ns_s (n : Nat) (F : Nat → Nat) : q_ns (n + 1) F = q_ns n F + F n := rfl
theorem q_ns_mono {n m : Nat} {F : Nat → Nat} (h : n ≤ m) : q_ns n F ≤ q_ns m F := by
  obtain ⟨d, rfl⟩ := Nat.exists_eq_add_of_le h
  induction d with
  | zero => exact Nat.le_refl _
  | succ d ih =>
    have := ih (Nat.le_add_right _ _)
    rw [← Nat.add_assoc, q_ns_s]
    omega
theorem q_fl_pos {w : Nat → Int32} {W : Nat → Nat} (hw : ∀ k, k < 6 → w k = nI (W k)) (hW : q_ns 6 W ≤ 6000) {τ : Nat} (hτ : τ < 6000) : ∀ (d k : Nat), k + d + 1 ≤ 6 → τ < q_ns (k + d + 1) W → q_ns k W ≤ τ → 0 < W (q_fl w (nI τ) d k) := by
  intro d
  induction d with
  | zero =>
    intro k hk h1 h2
    show 0 < W k
    have := q_ns_s k W
    rw [Nat.add_zero] at h1
    omega
  | succ d ih =>
    intro k hk h1 h2
    have m1 := q_ns_mono (F := W) (show k + 1 ≤ 6 by omega)
    have e : q_sum (k + 1) w = nI (q_ns (k + 1) W) := q_ns_sum (fun j hj => hw j (by omega))
    show 0 < W (if nI τ < q_sum (k + 1) w then k else q_fl w (nI τ) d (k + 1))
    rw [e]
    by_cases c : τ < q_ns (k + 1) W
    · rw [if_pos (i_lt (by omega) c)]
      have := q_ns_s k W
      omega
    · rw [if_neg (i_nlt (by omega) (by omega) (by omega))]
      exact ih (k + 1) (by omega) (by rw [show k + 1 + d + 1 = k + (d + 1) + 1 by omega]; exact h1) (by omega)
/-- after m throws: as many have fallen, each in a cell with a weight -/
def thI (s0 : QS) (W : Nat → Nat) (m : Nat) (s : QS) : Prop := s.1 = s0.1 ∧ s.2.2.1 = s0.2.2.1 ∧ s.2.2.2.1 = s0.2.2.2.1 ∧ 0 ≤ s.2.1.toInt ∧ ∃ F : Nat → Nat, (∀ k, k < 6 → s.2.2.2.2 k = nI (F k) ∧ (2 * s0.1 ≤ k → F k = 0) ∧ (0 < F k → 0 < W k)) ∧ q_ns 6 F = m
def thL (s0 : QS) (x : QS × Nat) : Prop := x.2 < 2 * s0.1 ∧ ∃ f : Nat, 0 < f ∧ f ≤ 1000 ∧ x.1.2.2.2.2 x.2 = nI f
section thr
variable {s0 s : QS} {W : Nat → Nat} {m : Nat}
theorem thI.step (h3 : s0.1 = 2 ∨ s0.1 = 3) (hw : ∀ k, k < 6 → s0.2.2.2.1 k = nI (W k) ∧ (2 * s0.1 ≤ k → W k = 0)) (hW : 0 < q_ns 6 W ∧ q_ns 6 W ≤ 5994) (I : thI s0 W m s) (hm : m < 1000) : thI s0 W (m + 1) (q_thr s).1 ∧ thL s0 (q_thr s) := by
  obtain ⟨i1, i2, i3, i4, F, f1, f2⟩ := I
  have h6 : 2 * s0.1 ≤ 6 := by omega
  have es : q_sum 6 s.2.2.2.1 = nI (q_ns 6 W) := by rw [i3]; exact q_ns_sum (fun k hk => (hw k hk).1)
  obtain ⟨χ, eχ, -, hχ⟩ := q_nI (q_next_nn i4)
  have et : q_tgt (q_next s.2.1) (q_sum 6 s.2.2.2.1) = nI (χ / 65536 % q_ns 6 W) := by
    unfold q_tgt
    rw [eχ, es, show (65536 : Int32) = nI 65536 from rfl, pk_div (by omega) (by omega) (by omega), pk_rem (by omega) (by omega) (by omega)]
  have ht : χ / 65536 % q_ns 6 W < q_ns 6 W := Nat.mod_lt _ hW.1
  have e6 : q_ns (2 * s0.1) W = q_ns 6 W := q_ns_6 h3 (fun k hk => (hw k hk).2)
  have kk : q_kk s = q_fl s0.2.2.2.1 (nI (χ / 65536 % q_ns 6 W)) (2 * s0.1 - 1) 0 := by unfold q_kk; rw [et, i3, i1]
  have hk : q_kk s < 2 * s0.1 := by
    have := q_fl_le s0.2.2.2.1 (nI (χ / 65536 % q_ns 6 W)) (2 * s0.1 - 1) 0
    rw [kk]
    omega
  have hp : 0 < W (q_kk s) := by
    rw [kk]
    exact q_fl_pos (fun k hk => (hw k hk).1) (by omega) (by omega) (2 * s0.1 - 1) 0 (by omega) (by rw [show 0 + (2 * s0.1 - 1) + 1 = 2 * s0.1 by omega, e6]; exact ht) (Nat.zero_le _)
  have hF : F (q_kk s) ≤ m := by rw [← f2]; exact q_ns_ge (by omega)
  refine ⟨⟨i1, i2, i3, q_next_nn i4, am_ud F (q_kk s) (F (q_kk s) + 1), fun k hk6 => ?_, ?_⟩, hk, F (q_kk s) + 1, by omega, by omega, ?_⟩
  · show am_ud s.2.2.2.2 (q_kk s) (s.2.2.2.2 (q_kk s) + 1) k = nI (am_ud F (q_kk s) (F (q_kk s) + 1) k) ∧ (2 * s0.1 ≤ k → am_ud F (q_kk s) (F (q_kk s) + 1) k = 0) ∧ (0 < am_ud F (q_kk s) (F (q_kk s) + 1) k → 0 < W k)
    unfold am_ud
    by_cases e : k = q_kk s
    · rw [if_pos e, if_pos e, (f1 (q_kk s) (by omega)).1, nI_1]
      exact ⟨rfl, fun z => absurd z (by omega), fun _ => by rw [e]; exact hp⟩
    · rw [if_neg e, if_neg e]
      exact f1 k hk6
  · have := q_ns_ud (n := 6) (F := F) (k := q_kk s) (v := F (q_kk s) + 1) (by omega)
    omega
  · show am_ud s.2.2.2.2 (q_kk s) (s.2.2.2.2 (q_kk s) + 1) (q_kk s) = _
    rw [am_ud_eq, (f1 (q_kk s) (by omega)).1, nI_1]
theorem thI.many (h3 : s0.1 = 2 ∨ s0.1 = 3) (hw : ∀ k, k < 6 → s0.2.2.2.1 k = nI (W k) ∧ (2 * s0.1 ≤ k → W k = 0)) (hW : 0 < q_ns 6 W ∧ q_ns 6 W ≤ 5994) : ∀ (j m : Nat) (x : QS × Nat), thI s0 W m x.1 → m + j ≤ 1000 → (0 < j ∨ thL s0 x) → thI s0 W (m + j) (q_thrs j x).1 ∧ thL s0 (q_thrs j x) := by
  intro j
  induction j with
  | zero =>
    intro m x I _ h
    exact ⟨I, h.resolve_left (by omega)⟩
  | succ j ih =>
    intro m x I hm _
    have S := I.step h3 hw hW (by omega)
    have := ih (m + 1) (q_thr x.1) S.1 (by omega) (Or.inr S.2)
    rw [show m + (j + 1) = m + 1 + j by omega]
    exact this
end thr
section thrown
variable {L : Nat} {xs : Nat → Int32} {A B : QA} {n : Nat}
theorem f_cell2 {A : QA} (h3 : A.1.1 = 2 ∨ A.1.1 = 3) {k : Nat} (hk : k < 2 * A.1.1) : f_cell A (nI (k / A.1.1)) (nI (k % A.1.1)) 2 = A.1.2.2.2.1 k := by
  have h1 : k / A.1.1 < 2 := by rw [Nat.div_lt_iff_lt_mul (by omega)]; omega
  have h2 : k % A.1.1 < A.1.1 := Nat.mod_lt _ (by omega)
  unfold f_cell
  rw [if_pos (i_cellok h3 h1 h2), i_vI (by omega), i_vI (by omega), if_neg (by decide), if_neg (by decide), if_pos (by decide), Nat.div_add_mod]
theorem f_cell3 {A : QA} (h3 : A.1.1 = 2 ∨ A.1.1 = 3) {k : Nat} (hk : k < 2 * A.1.1) : f_cell A (nI (k / A.1.1)) (nI (k % A.1.1)) 3 = A.1.2.2.2.2 k := by
  have h1 : k / A.1.1 < 2 := by rw [Nat.div_lt_iff_lt_mul (by omega)]; omega
  have h2 : k % A.1.1 < A.1.1 := Nat.mod_lt _ (by omega)
  unfold f_cell
  rw [if_pos (i_cellok h3 h1 h2), i_vI (by omega), i_vI (by omega), if_neg (by decide), if_neg (by decide), if_neg (by decide), if_pos (by decide), Nat.div_add_mod]
theorem i_rem {k c : Nat} (hk : k < 2147483648) (h0 : 0 < c) (hc : c < 2147483648) : nI k - nI (k / c) * nI c = nI (k % c) := by
  have := pk_rem (a := k) (d := c) hk h0 hc
  rw [pk_div hk h0 hc] at this
  exact this
/-- no regrets are left -/
theorem l190 (hf : ∀ k, A.1.2.2.2.2 k = 0) : ∀ (d k : Nat) (H : AH), k + d = q_nq A.1.1 → lw L xs n H A B → ∃ H1, am_ev 102 190 [.ref 1, am_ph, am_ph, am_ph, am_ph, am_ph, .int 1, .int (nI k)] [] H = some (some (.int 1), H1) ∧ lw L xs n H1 A B := by
  intro d
  induction d with
  | zero =>
    intro k H hk J
    have h8 := q_nq_le J.wo.1.c3
    obtain ⟨H1, e1, J1⟩ := lo_count J 2
    refine ⟨H1, ?_, J1⟩
    rw [am_b102_190, if_pos J.k1, e1, x_bI, f_count2, if_neg (i_nlt (by omega) (by omega) (by omega)), if_pos (Or.inr rfl)]
  | succ d ih =>
    intro k H hk J
    have h8 := q_nq_le J.wo.1.c3
    obtain ⟨H1, e1, J1⟩ := lo_count J 2
    obtain ⟨H2, e2, J2⟩ := lo_inequality J1 (nI k) 4
    obtain ⟨H3, e3, J3⟩ := ih (k + 1) H2 (by omega) J2
    refine ⟨H3, ?_, J3⟩
    have ek : (nI k).toInt = k := nI_toInt (by omega)
    have v : f_inequality A (nI k) 4 = (1000000 : Int32) := by
      unfold f_inequality
      rw [if_pos (by rw [ek]; omega), if_neg (by decide), if_neg (by decide), if_neg (by decide), if_neg (by decide), if_pos (by decide), i_vI (by omega)]
      have : q_lf A.1.1 (q_g A.1) A.1.2.2.2.2 k = 0 := by
        unfold q_lf
        rw [q_sum_congr (g := fun _ => nI 0) (fun j _ => by rw [hf j, Int32.zero_mul]; exact nI_0.symm), q_ns_sum (F := fun _ => 0) (fun _ _ => rfl)]
        have z : q_ns (2 * A.1.1) (fun _ => 0) = 0 := Nat.le_zero.1 (q_ns_le (m := 0) (fun _ _ => Nat.le_refl 0))
        rw [z, nI_0]
      rw [this, Int32.sub_zero]
    rw [am_b102_190, if_pos J.k1, e1, x_bI, f_count2, if_pos (i_lt (by omega) (by omega)), if_neg (by decide), if_pos J1.k1, e2, x_bI, if_pos v, nI_1]
    exact e3
end thrown
