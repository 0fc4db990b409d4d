/-! ===== the class: calls that change the State ===== -/
theorem c_rng {α : Sort _} {x a b : Int32} {p q : Int} {u v : α} (ha : a.toInt = p) (hb : b.toInt = q) : (if x < a then u else if b < x then u else v) = if p ≤ x.toInt ∧ x.toInt ≤ q then v else u := by
  simp only [Int32.lt_iff_toInt_lt, ha, hb]
  by_cases h1 : x.toInt < p
  · rw [if_pos h1, if_neg (by omega)]
  · rw [if_neg h1]
    by_cases h2 : q < x.toInt
    · rw [if_pos h2, if_neg (by omega)]
    · rw [if_neg h2, if_pos (by omega)]
section class5
variable {h : AH} {A : QA}
theorem cI.S (I : cI h A) : sS h 2 A.1.1 := I.2.2.1.1
theorem cI.c3 (I : cI h A) : A.1.1 = 2 ∨ A.1.1 = 3 := I.S.c3
theorem cI.c6 (I : cI h A) : 2 * A.1.1 ≤ 6 := by rcases I.c3 with e | e <;> omega
theorem cI.W (I : cI h A) {k : Nat} (hk : k < 6) : am_I h 4 k = A.1.2.2.2.1 k := I.2.2.1.2.2.2.1 k hk
theorem cI.F (I : cI h A) {k : Nat} (hk : k < 6) : am_I h 5 k = A.1.2.2.2.2 k := I.2.2.1.2.2.2.2 k hk
theorem cI.G (I : cI h A) {p k : Nat} (hp : p < 2) (hk : k < 6) : sG h 2 p k = q_g A.1 p k := by
  unfold sG q_g
  exact I.2.2.1.2.2.1 _ (by omega)
theorem cI.sF (I : cI h A) : am_ev 94 0 [.ref 5, am_ph, am_ph, am_ph, am_ph, am_ph] [] h = some (some (.int (q_sum 6 A.1.2.2.2.2)), h) := by
  rw [s_sumOf I.S.2.2.2.2.2.2.1.1 I.S.2.2.2.2.2.2.1.2 (by omega), q_sum_congr (fun k hk => I.F hk)]
theorem cI.sW (I : cI h A) : am_ev 94 0 [.ref 4, am_ph, am_ph, am_ph, am_ph, am_ph] [] h = some (some (.int (q_sum 6 A.1.2.2.2.1)), h) := by
  rw [s_sumOf I.S.2.2.2.2.2.1.1 I.S.2.2.2.2.2.1.2 (by omega), q_sum_congr (fun k hk => I.W hk)]
theorem q_wf.sF6 {s : QS} (w : q_wf s) : q_sum 6 s.2.2.2.2 = q_sum (2 * s.1) s.2.2.2.2 := by
  obtain ⟨n, n1, n2, -⟩ := w.sumF
  rw [n1, n2]
theorem q_wf.sW6 {s : QS} (w : q_wf s) : q_sum 6 s.2.2.2.1 = q_sum (2 * s.1) s.2.2.2.1 := by
  obtain ⟨n, n1, n2, -⟩ := w.sumW
  rw [n1, n2]
theorem c_isPlayer {p : Int32} : am_ev 83 0 [.int p] [] h = some (some (.int (if 0 ≤ p.toInt ∧ p.toInt ≤ 1 then 1 else 0)), h) := by
  rw [am_b83_0]
  simp only [Int32.lt_iff_toInt_lt, show (2 : Int32).toInt = 2 from rfl, show (0 : Int32).toInt = 0 from rfl]
  by_cases h1 : p.toInt < 0
  · rw [if_pos h1, if_neg (by omega)]
  · rw [if_neg h1]
    by_cases h2 : p.toInt < 2
    · rw [if_pos h2, if_pos (by omega)]
    · rw [if_neg h2, if_neg (by omega)]
theorem c_isCell (I : cI h A) (r q : Int32) : am_ev 85 0 [.ref 1, .int r, .int q] [] h = some (some (.int (if q_cellok A.1.1 r q then 1 else 0)), h) := by
  have L := I.1
  have S := I.S
  have e : am_I h 2 0 = nI A.1.1 := S.2.2.2.2.2.2.2.1
  have e2 : (nI A.1.1).toInt = (A.1.1 : Int) := nI_toInt (by have := I.c6; omega)
  rw [am_b85_0, if_pos L.k1, L.n, x_oe, if_pos S.1, e]
  simp only [Int32.lt_iff_toInt_lt, show (2 : Int32).toInt = 2 from rfl, show (0 : Int32).toInt = 0 from rfl, e2]
  by_cases h1 : r.toInt < 0
  · rw [if_pos h1, if_neg (by omega)]
  · rw [if_neg h1]
    by_cases h2 : r.toInt < 2
    · rw [if_pos h2]
      by_cases h3 : q.toInt < 0
      · rw [if_pos h3, if_neg (by omega)]
      · rw [if_neg h3]
        by_cases h4 : q.toInt < (A.1.1 : Int)
        · rw [if_pos h4, if_pos (by omega)]
        · rw [if_neg h4, if_neg (by omega)]
    · rw [if_neg h2, if_neg (by omega)]
theorem c_begin (I : cI h A) (x : Int32) : ∃ h1, am_ev 61 0 [.ref 1, .int x, am_ph] [] h = some (some (.int (f_begin A x)), h1) ∧ cI h1 (g_begin A x) ∧ cF h h1 cN := by
  have L := I.1
  have S := I.S
  rw [am_b61_0, c_rng (p := 2) (q := 3) rfl rfl]
  unfold f_begin g_begin
  by_cases h1 : 2 ≤ x.toInt ∧ x.toInt ≤ 3
  · simp only [if_pos h1]
    obtain ⟨j, rfl, hj, hj2⟩ := q_nI (x := x) (by omega)
    have h3 : j = 2 ∨ j = 3 := by omega
    have ej : (nI j).toInt.toNat = j := by omega
    rw [ej]
    obtain ⟨h1, e1, I1, f1⟩ := I.rec
    have v1 := I1.2.2.1
    obtain ⟨h2, e2, f2, v2⟩ := s_startAnew v1.1 h3
    rw [v1.2.1] at v2
    rw [if_pos L.k1, L.n, x_oe, if_pos S.1, if_pos L.k1, e1, x_bV, if_pos I1.1.k1, I1.1.n, x_oe, if_pos I1.S.1, e2, x_bV, S.2.2.2.2.2.2.2.1]
    exact ⟨h2, rfl, I1.now f2 v2, f1.tr f2.now⟩
  · simp only [if_neg h1]
    exact ⟨h, rfl, I, am_fr.rf.c (fun _ z => z)⟩
theorem c_points (I : cI h A) (p r q v : Int32) : ∃ h1, am_ev 62 0 [.ref 1, .int p, .int r, .int q, .int v, am_ph, am_ph] [] h = some (some (.int (f_points A p r q v)), h1) ∧ cI h1 (g_points A p r q v) ∧ cF h h1 cN := by
  have L := I.1
  have S := I.S
  rw [am_b62_0, c_isPlayer, x_bI, x_ite]
  unfold f_points g_points
  by_cases h1 : 0 ≤ p.toInt ∧ p.toInt ≤ 1
  · rw [if_pos h1, if_pos L.k1, c_isCell I, x_bI, x_ite, if_pos h1]
    by_cases h2 : q_cellok A.1.1 r q
    · rw [if_pos h2, c_rng (p := -9) (q := 9) rfl rfl, if_pos h2]
      by_cases h4 : -9 ≤ v.toInt ∧ v.toInt ≤ 9
      · rw [if_pos h4, if_pos h4, if_pos (And.intro h1 (And.intro h2 h4))]
        obtain ⟨p, rfl, e1, hp⟩ := q_pl2 h1
        obtain ⟨r, q, rfl, rfl, e2, e3, -, -, hc1, hc⟩ := q_cell I.c3 h2
        rw [e1, e2, e3]
        obtain ⟨h2', e, I2, fr⟩ := I.rec
        obtain ⟨h3, e3', f3, v3⟩ := s_setGain (v := v) I2.2.2.1 hp hc
        rw [if_pos L.k1, L.n, x_oe, if_pos S.1, s_cellAt S, x_bI, if_pos L.k1, L.n, x_oe, if_pos S.1, s_gain S hp hc, x_bI, if_pos L.k1, e, x_bV, if_pos I2.1.k1, I2.1.n, x_oe, if_pos I2.S.1, e3', x_bV, I.G hp hc, x_c100]
        exact ⟨h3, rfl, I2.now f3 v3, fr.tr f3.now⟩
      · rw [if_neg h4, if_neg h4, if_neg (fun z => h4 z.2.2)]
        exact ⟨h, rfl, I, am_fr.rf.c (fun _ z => z)⟩
    · rw [if_neg h2, if_neg h2, if_neg (fun z => h2 z.2.1)]
      exact ⟨h, rfl, I, am_fr.rf.c (fun _ z => z)⟩
  · rw [if_neg h1, if_neg h1, if_neg (fun z => h1 z.1)]
    exact ⟨h, rfl, I, am_fr.rf.c (fun _ z => z)⟩
/-- another weight -/
theorem sV.w {a : Nat} {s : QS} (S : sV h a s) {k : Nat} (hk : k < 6) (v : Int32) : am_fr h (am_sI h (a + 2) k v) (sP a) ∧ sV (am_sI h (a + 2) k v) a (s.1, s.2.1, s.2.2.1, am_ud s.2.2.2.1 k v, s.2.2.2.2) := by
  obtain ⟨s1, s2, s3, s4, s5⟩ := id S
  have f : am_fr h (am_sI h (a + 2) k v) (sP a) := am_sI_fr ⟨by omega, by omega⟩
  refine ⟨f, s1.fr f (by rw [am_sI_ne (by omega)]; exact s1.2.2.2.2.2.2.2.1) s1.c3, by rw [am_sI_ne (by omega)]; exact s2, fun j hj => by rw [am_sI_ne (by omega)]; exact s3 j hj, fun j hj => ?_, fun j hj => by rw [am_sI_ne (by omega)]; exact s5 j hj⟩
  rw [am_sI_I]
  dsimp only
  unfold am_ud
  split
  · rfl
  · exact s4 j hj
theorem c_weigh (I : cI h A) (w : q_wf A.1) (r q v : Int32) : ∃ h1, am_ev 63 0 [.ref 1, .int r, .int q, .int v, am_ph, am_ph] [] h = some (some (.int (f_weigh A r q v)), h1) ∧ cI h1 (g_weigh A r q v) ∧ cF h h1 cN := by
  have L := I.1
  have S := I.S
  rw [am_b63_0, if_pos L.k1, c_isCell I, x_bI, x_ite]
  unfold f_weigh g_weigh
  by_cases h2 : q_cellok A.1.1 r q
  · rw [if_pos h2, c_rng (p := 0) (q := 999) rfl rfl, if_pos h2]
    by_cases h4 : 0 ≤ v.toInt ∧ v.toInt ≤ 999
    · rw [if_pos h4, if_pos h4]
      obtain ⟨r, q, rfl, rfl, e2, e3, -, -, hc1, hc⟩ := q_cell I.c3 h2
      rw [e2, e3]
      obtain ⟨j, rfl, hj, hj2⟩ := q_nI h4.1
      obtain ⟨n, n1, n2, n3, n4⟩ := w.sumW
      obtain ⟨W, w1, w2⟩ := w.2.1
      generalize hk : A.1.1 * r + q = k at hc hc1
      have ew := (w1 k hc).1
      have hW : W k ≤ n := by
        have a1 := q_ns_ge (F := W) hc
        rw [q_ns_sum (fun k hk => (w1 k hk).1)] at n1
        have a2 := (w1 k hc).2.1
        have a3 : q_ns 6 W ≤ 6 * 999 := q_ns_le (fun k hk => (w1 k hk).2.1)
        have := (nI_eq (show q_ns 6 W < 2 ^ 31 by omega) (by omega)).1 n1
        omega
      have es : nI n - nI (W k) + nI j = nI (n - W k + j) := by rw [x_sub hW, nI_add]
      have hz : (nI (n - W k + j) = 0) = (n - W k + j = 0) := x_eq0 (by omega)
      have hp : (0 < nI (n - W k + j)) = (0 < n - W k + j) := by rw [← nI_0, x_lt (by omega) (by omega)]
      have ea : am_ev 91 0 [.ref 4, .int (nI k)] [] h = some (some (.int (nI (W k))), h) := by
        rw [s_amount S.2.2.2.2.2.1.1 (by rw [S.2.2.2.2.2.1.2]; omega) (by omega), if_pos (by rw [S.2.2.2.2.2.1.2]; exact hc), I.W hc, ew]
      rw [if_pos L.k1, L.n, x_oe, if_pos S.1, s_cellAt S, x_bI, hk, if_pos L.k1, L.n, x_oe, if_pos S.1, S.2.2.1, x_oe, ea, x_bI, if_pos L.k1, L.n, x_oe, if_pos S.1, S.2.2.1, x_oe, I.sW, x_bI, n1, n2, ew, es]
      simp only [hz, hp]
      by_cases h5 : n - W k + j = 0
      · rw [if_neg (by omega), if_pos h5, if_neg (fun z => z.2.2 h5)]
        exact ⟨h, rfl, I, am_fr.rf.c (fun _ z => z)⟩
      · obtain ⟨h2', e, I2, fr⟩ := I.rec
        have S2 := I2.S
        have q2 := I2.2.2.1.w hc (nI j)
        rw [if_pos (by omega), if_neg h5, if_pos (And.intro h2 (And.intro h4 h5)), if_pos L.k1, e, x_bV, if_pos I2.1.k1, I2.1.n, x_oe, if_pos S2.1, S2.2.2.1, x_oe, s_setAmount S2.2.2.2.2.2.1.1 (by rw [S2.2.2.2.2.2.1.2]; omega) (by omega) (by rw [S2.2.2.2.2.2.1.2]; exact hc), x_bV]
        exact ⟨_, rfl, I2.now q2.1 q2.2, fr.tr q2.1.now⟩
    · rw [if_neg h4, if_neg h4, if_neg (fun z => h4 z.2.1)]
      exact ⟨h, rfl, I, am_fr.rf.c (fun _ z => z)⟩
  · rw [if_neg h2, if_neg h2, if_neg (fun z => h2 z.1)]
    exact ⟨h, rfl, I, am_fr.rf.c (fun _ z => z)⟩
end class5
