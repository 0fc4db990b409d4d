/-! ===== the law's isMixed ===== -/
section mixv
variable {A : QA}
theorem i_mixok {x y : Nat} (hx : x ≤ 9) (hy : y ≤ 9) (h : ¬ (x = 0 ∧ y = 0)) : q_mixok (nI x) (nI y) := by
  have e1 : (nI x).toInt = x := nI_toInt (by omega)
  have e2 : (nI y).toInt = y := nI_toInt (by omega)
  refine ⟨by rw [e1]; omega, by rw [e2]; omega, fun z => h ⟨?_, ?_⟩⟩
  · have := z.1
    rw [← nI_0, nI_eq (by omega) (by omega)] at this
    exact this
  · have := z.2
    rw [← nI_0, nI_eq (by omega) (by omega)] at this
    exact this
/-- a mixture: too much, or what it is -/
theorem mix_or (w : q_wf A.1) (L : z_list A.1.1 (q_g A.1) (q_N A.1, q_E A.1)) {i x y : Nat} (hi : i < q_N A.1) (hx : x ≤ 9) (hy : y ≤ 9) (h : ¬ (x = 0 ∧ y = 0)) : f_mixes A i (nI x) (nI y) = -4 ∨ (g_mixes A i (nI x) (nI y)).1 = q_mixw A.1 i (nI x) (nI y) ∧ f_mixes A i (nI x) (nI y) = q_sum (2 * A.1.1) (q_mixw A.1 i (nI x) (nI y)).2.2.2.1 ∧ q_wf (q_mixw A.1 i (nI x) (nI y)) ∧ ∀ k, k < 2 * A.1.1 → q_wz (q_mixw A.1 i (nI x) (nI y)) k = x * q_wz A.1 k + y * (q_E A.1 i k).toInt := by
  have h6 : 2 * A.1.1 ≤ 6 := by rcases w.c3 with e | e <;> omega
  have ok := i_mixok hx hy h
  have e1 : (nI x).toInt = x := nI_toInt (by omega)
  have e2 : (nI y).toInt = y := nI_toInt (by omega)
  unfold f_mixes g_mixes
  by_cases c : ∃ k, k < 2 * A.1.1 ∧ (999 : Int64) < q_mixd A.1 i (nI x) (nI y) k
  · left
    rw [z_pif_pos c]
  · right
    rw [z_pif_neg c, z_pif_neg c]
    have wf := q_mixw_wf w L hi ok c
    refine ⟨rfl, rfl, wf, fun k hk => ?_⟩
    have d := q_mixd_int w L hi ok.1 ok.2.1 (show k < 6 by omega)
    have hm : (q_mixd A.1 i (nI x) (nI y) k).toInt ≤ 999 := Classical.byContradiction (fun z => c ⟨k, hk, by
      rw [y_lt]
      show (999 : Int) < _
      omega⟩)
    show ((if k < 2 * A.1.1 then (q_mixd A.1 i (nI x) (nI y) k).toInt32 else A.1.2.2.2.1 k)).toInt = _
    rw [if_pos hk, Int64.toInt_toInt32, Int.bmod_def, e1.symm, e2.symm]
    unfold q_wz
    omega
theorem mix_ob (w : q_wf A.1) (L : z_list A.1.1 (q_g A.1) (q_N A.1, q_E A.1)) {i x y : Nat} {s : QS} (hs : s.1 = A.1.1 ∧ q_g s = q_g A.1) (hi : i < q_N A.1) (hw : ∀ k, k < 2 * A.1.1 → q_wz s k = x * q_wz A.1 k + y * (q_E A.1 i k).toInt) (ob : x = 0 ∨ q_ob A.1) : q_ob s := by
  unfold q_ob
  rw [hs.1, hs.2]
  intro r hr
  rw [z_dot_congr (w := fun k => (x : Int) * q_wz A.1 k + (y : Int) * (q_E A.1 i k).toInt) hw, z_dot_lin]
  have e := (L.2.1 i hi).1.1 r hr
  have p2 : 0 ≤ (y : Int) * z_dot (2 * A.1.1) (z_row A.1.1 (q_g A.1) r) (fun k => (q_E A.1 i k).toInt) := Int.mul_nonneg (by omega) e
  rcases ob with z | z
  · rw [z]
    show 0 ≤ (0 : Int) * _ + _
    rw [Int.zero_mul]
    omega
  · have p1 : 0 ≤ (x : Int) * z_dot (2 * A.1.1) (z_row A.1.1 (q_g A.1) r) (q_wz A.1) := Int.mul_nonneg (by omega) (z r hr)
    omega
theorem count4_1 (w : q_wf A.1) : f_count A 4 = 1 ↔ q_ob A.1 := by
  rw [f_count4, ← q_ob_cnt w]
  by_cases h : q_cnt (q_nq A.1.1) (fun q => q_lf A.1.1 (q_g A.1) A.1.2.2.2.1 q < 0) = 0
  · rw [if_pos h]; exact ⟨fun _ => h, fun _ => rfl⟩
  · rw [if_neg h]; exact ⟨fun z => absurd z (by decide), fun z => absurd z h⟩
theorem count5_0 (w : q_wf A.1) (ob : q_ob A.1) : f_count A 5 = 0 := by
  rw [f_count5, (q_ob_cnt w).2 ob]
  exact nI_0
end mixv
section mixed
variable {L : Nat} {xs : Nat → Int32} {A B : QA}
/-- the end of a round: what is obeyed is worth no more than the best -/
theorem l159 {n k : Nat} {H : AH} {x : Int32} (J : lw L xs n H A B) : ∃ H1, am_ev 101 159 [.ref 1, .int x, am_ph, am_ph, am_ph, .int (nI k), am_ph, am_ph, am_ph] [.int 1] H = am_ev 101 53 [.ref 1, .int x, am_ph, am_ph, .int 1, .int (nI (k + 1)), am_ph, am_ph, am_ph] [] H1 ∧ lw L xs n H1 A B := by
  obtain ⟨H1, e1, J1⟩ := lo_count J 4
  by_cases ob : q_ob A.1
  · obtain ⟨H2, e2, J2⟩ := lo_worth J1 (nI 0)
    obtain ⟨H3, e3, J3⟩ := lo_best J2 (nI 0) 1
    obtain ⟨H4, e4, J4⟩ := lo_worth J3 (nI 1)
    obtain ⟨H5, e5, J5⟩ := lo_best J4 (nI 1) 1
    obtain ⟨H6, e6, J6⟩ := lo_worth J5 (nI 2)
    obtain ⟨H7, e7, J7⟩ := lo_best J6 (nI 2) 1
    obtain ⟨H8, e8, J8⟩ := lo_count J7 5
    refine ⟨H8, ?_, J8⟩
    have w := J.wo.1
    have b := fun p (hp : p < 3) => q_ob_worth w J.zo ob hp
    rw [f_best_bw (by omega)] at e3 e5 e7
    rw [am_b101_159, if_pos J.k1, e1, x_bI, if_pos ((count4_1 w).2 ob), if_neg (by decide), if_pos J1.k1, show (0 : Int32) = nI 0 from rfl, e2, x_bI, if_pos J2.k1, e3, x_bI, if_neg (b 0 (by omega)), if_pos J3.k1, show am_ev 72 0 [Value.ref 1, Value.int (1 : Int32)] [] H3 = _ from e4, x_bI, if_pos J4.k1, show am_ev 74 0 [Value.ref 1, Value.int (1 : Int32), Value.int (1 : Int32), am_ph, am_ph] [] H4 = _ from e5, x_bI, if_neg (b 1 (by omega)), if_pos J5.k1, show am_ev 72 0 [Value.ref 1, Value.int (2 : Int32)] [] H5 = _ from e6, x_bI, if_pos J6.k1, show am_ev 74 0 [Value.ref 1, Value.int (2 : Int32), Value.int (1 : Int32), am_ph, am_ph] [] H6 = _ from e7, x_bI, if_neg (b 2 (by omega)), if_pos J7.k1, e8, x_bI, if_pos (by rw [count5_0 w ob]; rfl), nI_1]
  · refine ⟨H1, ?_, J1⟩
    rw [am_b101_159, if_pos J.k1, e1, x_bI, if_neg (fun z => ob ((count4_1 J.wo.1).1 z)), nI_1]
theorem l97 {n k j : Nat} {H : AH} {x s0 : Int32} (hk : k < 4) (J : lw L xs n H A B) (hj : j < q_N A.1) (hs : s0 = 0 ∨ q_ob A.1) : ∃ H1 A', am_ev 101 97 [.ref 1, .int x, am_ph, am_ph, am_ph, .int (nI k), .int (nI j), am_ph, am_ph] [.int s0] H = am_ev 101 159 [.ref 1, .int x, am_ph, am_ph, am_ph, .int (nI k), am_ph, am_ph, am_ph] [.int 1] H1 ∧ lw L xs (n + 1) H1 A' B := by
  have w := J.wo.1
  have h128 : q_N A.1 ≤ 128 := J.zo.1.2
  have hy := ups_lt (x >>> (((2 : Int32) * nI k) &&& 31)) (m := 3) (by omega)
  generalize ey : ups (x >>> (((2 : Int32) * nI k) &&& 31)) 3 = y at hy
  have hx : 1 + k % 2 ≤ 9 := by omega
  obtain ⟨H1, e1, J1⟩ := lo_mix J (nI j) (nI (1 + k % 2)) (nI y)
  have ej : (nI j).toInt = j := nI_toInt (by omega)
  have ok := i_mixok (x := 1 + k % 2) (y := y) hx (by omega) (by omega)
  have fm : f_mix A (nI j) (nI (1 + k % 2)) (nI y) = f_mixes A j (nI (1 + k % 2)) (nI y) := by
    unfold f_mix
    rw [if_pos (by rw [ej]; omega), if_pos ok, i_vI (by omega)]
  have gm : g_mix A (nI j) (nI (1 + k % 2)) (nI y) = g_mixes A j (nI (1 + k % 2)) (nI y) := by
    unfold g_mix
    rw [if_pos (by rw [ej]; omega), if_pos ok, i_vI (by omega)]
  rw [fm] at e1
  rw [gm] at J1
  have hk2 : (1 : Int32) + (nI k - nI k / (2 : Int32) * (2 : Int32)) = nI (1 + k % 2) := by
    rw [show (2 : Int32) = nI 2 from rfl, pk_rem (by omega) (by omega) (by omega), show (1 : Int32) = nI 1 from rfl, nI_add]
  rw [am_b101_97, l_up3, x_bI, ey, hk2, if_pos J.k1, e1, x_bI]
  by_cases c : f_mixes A j (nI (1 + k % 2)) (nI y) = -4
  · exact ⟨H1, _, if_pos c, J1⟩
  · rw [if_neg c]
    obtain ⟨m1, m2, m3, m4⟩ := (mix_or w J.zo hj hx (y := y) (by omega) (by omega)).resolve_left c
    obtain ⟨H2, e2, J2⟩ := lo_count J1 3
    have v3 : f_mixes A j (nI (1 + k % 2)) (nI y) = f_count (g_mixes A j (nI (1 + k % 2)) (nI y)) 3 := by
      rw [f_count3, m1, m2]
      rfl
    rw [if_pos J1.k1, e2, x_bI, if_pos v3]
    rcases hs with hs | hs
    · exact ⟨H2, _, if_pos hs, J2⟩
    · by_cases h0 : s0 = 0
      · exact ⟨H2, _, if_pos h0, J2⟩
      · obtain ⟨H3, e3, J3⟩ := lo_count J2 4
        have ob : q_ob (g_mixes A j (nI (1 + k % 2)) (nI y)).1 := by
          rw [m1]
          exact mix_ob w J.zo (s := q_mixw A.1 j (nI (1 + k % 2)) (nI y)) ⟨rfl, rfl⟩ hj m4 (Or.inr hs)
        refine ⟨H3, _, ?_, J3⟩
        rw [if_neg h0, if_pos J2.k1, e3, x_bI, if_pos ((count4_1 J2.wo.1).2 ob)]
theorem l53 {x : Int32} : ∀ (d k n : Nat) (H : AH) (A : QA), k + d = 4 → lw L xs n H A B → ∃ H1 A', am_ev 101 53 [.ref 1, .int x, am_ph, am_ph, .int 1, .int (nI k), am_ph, am_ph, am_ph] [] H = some (some (.int 1), H1) ∧ lw L xs (n + d) H1 A' B := by
  intro d
  induction d with
  | zero =>
    intro k n H A hk J
    obtain rfl : k = 4 := by omega
    refine ⟨H, A, ?_, J⟩
    rw [am_b101_53, if_neg (show ¬ nI 4 < (4 : Int32) by decide), if_pos (Or.inr rfl)]
  | succ d ih =>
    intro k n H A hk J
    have h128 : 0 < q_N A.1 ∧ q_N A.1 ≤ 128 := J.zo.1
    obtain ⟨H1, e1, J1⟩ := lo_count J 6
    obtain ⟨H2, e2, J2⟩ := lo_count J1 4
    have hj := ups_lt (x >>> (((4 : Int32) + ((3 : Int32) * nI k)) &&& 31)) h128.1
    have fin : ∀ s0 : Int32, (s0 = 0 ∨ q_ob A.1) → ∃ H1 A', am_ev 101 97 [.ref 1, .int x, am_ph, am_ph, am_ph, .int (nI k), .int (nI (ups (x >>> (((4 : Int32) + ((3 : Int32) * nI k)) &&& 31)) (q_N A.1))), am_ph, am_ph] [.int s0] H2 = some (some (.int 1), H1) ∧ lw L xs (n + (d + 1)) H1 A' B := fun s0 hs => by
      obtain ⟨H3, A3, e3, J3⟩ := l97 (x := x) (k := k) (by omega) J2 hj hs
      obtain ⟨H4, e4, J4⟩ := l159 (x := x) (k := k) J3
      obtain ⟨H5, A5, e5, J5⟩ := ih (k + 1) (n + 1) H4 A3 (by omega) J4
      exact ⟨H5, A5, by rw [e3, e4, e5], by rw [show n + (d + 1) = n + 1 + d by omega]; exact J5⟩
    rw [am_b101_53, if_pos (show nI k < (4 : Int32) from i_lt (b := 4) (by omega) (by omega)), if_neg (by decide), if_pos J.k1, e1, x_bI, f_count6, l_up _ h128.1 (by omega), x_bI, if_pos J1.k1, e2, x_bI]
    by_cases c : f_count A 4 = 1
    · rw [if_pos c]
      exact fin 1 (Or.inr ((count4_1 J.wo.1).1 c))
    · rw [if_neg c]
      exact fin 0 (Or.inl rfl)
theorem l_mixed {n : Nat} {H : AH} (J : lw L xs n H A B) (x : Int32) : ∃ H1 A', am_ev 101 0 [.ref 1, .int x, am_ph, am_ph, am_ph, am_ph, am_ph, am_ph, am_ph] [] H = some (some (.int 1), H1) ∧ lw L xs (n + 5) H1 A' B := by
  have w := J.wo.1
  have h128 : 0 < q_N A.1 ∧ q_N A.1 ≤ 128 := J.zo.1
  have h3 := w.c3
  obtain ⟨H1, e1, J1⟩ := lo_count J 6
  have hi := ups_lt x h128.1
  generalize ei : ups x (q_N A.1) = i at hi
  obtain ⟨H2, e2, J2⟩ := lo_take J1 (nI i)
  have eI : (nI i).toInt = i := nI_toInt (by omega)
  have ft : f_take A (nI i) = f_mixes A i (nI 0) (nI 1) := by
    unfold f_take
    rw [if_pos (by rw [eI]; omega), i_vI (by omega)]
    rfl
  have gt : g_take A (nI i) = g_mixes A i (nI 0) (nI 1) := by
    unfold g_take
    rw [if_pos (by rw [eI]; omega), i_vI (by omega)]
    rfl
  rw [ft] at e2
  rw [gt] at J2
  rw [am_b101_0, if_pos J.k1, e1, x_bI, f_count6, l_up _ h128.1 (by omega), x_bI, ei, if_pos J1.k1, e2, x_bI]
  have go : ∀ {H : AH} {A : QA}, lw L xs (n + 1) H A B → ∃ H1 A', am_ev 101 53 [.ref 1, .int x, am_ph, am_ph, .int 1, .int 0, am_ph, am_ph, am_ph] [] H = some (some (.int 1), H1) ∧ lw L xs (n + 5) H1 A' B := fun {H A} J => by
    obtain ⟨H1, A1, e, J1⟩ := l53 (x := x) 4 0 (n + 1) H A (by omega) J
    rw [nI_0] at e
    exact ⟨H1, A1, e, J1⟩
  by_cases c : f_mixes A i (nI 0) (nI 1) = -4
  · rw [if_pos c]
    exact go J2
  · rw [if_neg c]
    obtain ⟨m1, m2, m3, m4⟩ := (mix_or w J.zo hi (x := 0) (y := 1) (by omega) (by omega) (by omega)).resolve_left c
    obtain ⟨H3, e3, J3⟩ := lo_extreme J2 (nI i) 6
    obtain ⟨H4, e4, J4⟩ := lo_count J3 4
    have hN2 : q_N (g_mixes A i (nI 0) (nI 1)).1 = q_N A.1 := by rw [m1]; rfl
    have e := e_int w J.zo hi
    have wi := w_int m3
    have v6 : f_mixes A i (nI 0) (nI 1) = f_extreme (g_mixes A i (nI 0) (nI 1)) (nI i) 6 := by
      rw [f_extreme6 (by rw [m1]; exact h3) (by rw [hN2]; exact hi) (by rw [hN2]; exact h128.2), m1]
      have e5 : f_sumE (q_mixw A.1 i (nI 0) (nI 1)) i = f_sumE A.1 i := rfl
      rw [e5, m2, ← Int32.toInt_inj, Int64.toInt_toInt32]
      have e6 : (q_sum (2 * A.1.1) (q_mixw A.1 i (nI 0) (nI 1)).2.2.2.1).toInt = z_sum (2 * A.1.1) (q_wz (q_mixw A.1 i (nI 0) (nI 1))) := wi.1
      have e7 : z_sum (2 * A.1.1) (q_wz (q_mixw A.1 i (nI 0) (nI 1))) = (f_sumE A.1 i).toInt := by
        rw [e.2.1]
        exact z_sum_congr (fun k hk => by rw [m4 k hk]; omega)
      have e8 : z_sum (2 * A.1.1) (q_wz (q_mixw A.1 i (nI 0) (nI 1))) ≤ 5994 := wi.2.2.1
      have e9 := e.2.2.1
      rw [e6, e7, Int.bmod_def]
      omega
    have ob : q_ob (g_mixes A i (nI 0) (nI 1)).1 := by
      rw [m1]
      exact mix_ob w J.zo (s := q_mixw A.1 i (nI 0) (nI 1)) ⟨rfl, rfl⟩ hi m4 (Or.inl rfl)
    rw [if_pos J2.k1, e3, x_bI, if_pos v6, if_pos J3.k1, e4, x_bI, if_pos ((count4_1 J2.wo.1).2 ob)]
    exact go J4
end mixed
