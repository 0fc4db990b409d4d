/-! ===== the class: saved States ===== -/
section class7
variable {h : AH} {A : QA}
/-- a new State for a slot -/
theorem cI.newS {h4 : AH} (I : cI h A) {n : Nat} (hn : n < 2) (e : am_R h 19 n = none) (t4 : h4.1 = h.1 ++ [(2, 5), (5, 12), (5, 6), (5, 6)]) (o4 : ∀ b, b < h.1.length → am_I h4 b = am_I h b ∧ am_J h4 b = am_J h b ∧ am_R h4 b = am_R h b) (v4 : sV h4 h.1.length (q_new 2 1)) : cI (am_sR h4 19 n (some h.1.length)) (A.1, A.2.1, am_ud A.2.2.1 n (some (q_new 2 1)), A.2.2.2) ∧ cr (am_sR h4 19 n (some h.1.length)) (6 + n) = some h.1.length ∧ cF h (am_sR h4 19 n (some h.1.length)) cN := by
  have g := I.1.g
  have en : cr h (6 + n) = none := by unfold cr; rw [if_neg (by omega), show 6 + n - 6 = n by omega]; exact e
  have q := c_alloc I.1 I.2.1 (show 6 + n < 8 by omega) en t4 o4 v4
  rw [show c_row (6 + n) = 19 from if_neg (by omega), show c_pos (6 + n) = n from (if_neg (by omega)).trans (by omega)] at q
  obtain ⟨q1, q2, q3, q4, q5, q6⟩ := q
  obtain ⟨i1, i2, i3, i4, i5, i6, i7, i8⟩ := id I
  refine ⟨⟨q1, q2, q5 2 _ (Or.inl rfl) (by omega) i3, ⟨?_, i4.2.1, fun i hi => ?_⟩, fun i hi => ?_, ?_, i7, ?_⟩, q3, q6⟩
  · show am_I h4 1 5 = _
    rw [(o4 1 (by omega)).1]; exact i4.1
  · have hi : i < A.2.1.1 := hi
    obtain ⟨a, ea, va, h1, h2⟩ := I.h hi
    have ec : cr h i = some a := by unfold cr; rw [if_pos (by omega)]; exact ea
    have := i2.2.1 i (by omega) a ec
    have e2 := q4 i (by omega) (by omega)
    rw [ec] at e2
    unfold cr at e2
    rw [if_pos (by omega)] at e2
    exact ⟨a, e2, q5 a _ (Or.inr h1) this.2.2.1 va⟩
  · show cS _ i (am_ud A.2.2.1 n (some (q_new 2 1)) i)
    by_cases ei : i = n
    · rw [ei, am_ud_eq]
      unfold cS
      refine ⟨h.1.length, ?_, v4.cp (fun j hj => ⟨rfl, rfl, rfl⟩) (by rw [am_sR_ne (by omega)])⟩
      rw [am_sR_R, am_ud_eq]
    · rw [am_ud_ne ei]
      exact (i5 i hi).mv i2 hi (q4 _ (by omega) (by omega)) q5
  · show am_I h4 15 0 = _
    rw [(o4 15 (by omega)).1]; exact i6
  · show ∀ k, k < A.2.2.2.1 → am_I h4 16 k = _
    rw [(o4 16 (by omega)).1]; exact i8
theorem c_save42 (I : cI h A) {i b : Nat} (hi : i < 2) (e : cr h (6 + i) = some b) : ∃ h1, am_ev 81 42 [.ref 1, am_ph, .ref b] [] h = some (some (.int (q_sum 6 A.1.2.2.2.2)), h1) ∧ cI h1 (A.1, A.2.1, am_ud A.2.2.1 i (some A.1), A.2.2.2) ∧ am_fr h h1 cN := by
  obtain ⟨i1, i2, i3, i4, i5, i6, i7, i8⟩ := id I
  obtain ⟨q1, q2, q3, c, q4⟩ := i2.2.1 _ (by omega) b e
  obtain ⟨h1, e1, f1, v1⟩ := s_copyFrom q4 i3 (by omega)
  obtain ⟨p1, p2, p3, p4, p5, p6, p7⟩ := I.put (by omega) e f1 ⟨_, v1⟩
  have er : am_R h 19 i = some b := by
    unfold cr at e
    rw [if_neg (by omega), show 6 + i - 6 = i by omega] at e
    exact e
  have I1 := I.of (n := A.2.1.1) (H := A.2.1.2) (sl := am_ud A.2.2.1 i (some A.1)) p1 p2 p3 (by rw [p6 1 (by omega)]; exact i4.1) i4.2.1 (fun j hj => p4 j hj (by have := i4.2.1; omega)) (fun j hj => by
    by_cases ej : j = i
    · rw [ej, am_ud_eq]
      unfold cS
      exact ⟨b, by rw [f1.2.1]; exact er, v1⟩
    · rw [am_ud_ne ej]
      exact p5 j hj (by omega)) (p6 15 (by omega)) (p6 16 (by omega))
  refine ⟨h1, ?_, I1, f1.wk (fun x z => by obtain ⟨z1, z2⟩ := z; exact Or.inr (Or.inr (by omega)))⟩
  rw [am_b81_42, if_pos i1.k1, i1.n, x_oe, if_pos q4.1, e1, x_bV, if_pos p1.k1, p1.n, x_oe, if_pos p3.1.1, p3.1.2.2.2.1, x_oe, I1.sF, x_bI]
theorem c_slot {x : Int32} {α : Sort _} {u v : α} : (if x < 0 then u else if x < nI 2 then v else u) = if 0 ≤ x.toInt ∧ x.toInt ≤ 1 then v else u := by
  simp only [Int32.lt_iff_toInt_lt, show (nI 2).toInt = 2 from rfl, show (0 : Int32).toInt = 0 from rfl]
  by_cases h1 : x.toInt < 0
  · rw [if_pos h1, if_neg (by omega)]
  · rw [if_neg h1]
    by_cases h2 : x.toInt < 2
    · rw [if_pos h2, if_pos (by omega)]
    · rw [if_neg h2, if_neg (by omega)]
theorem c_save (I : cI h A) (w : q_wf A.1) (x : Int32) : ∃ h1, am_ev 81 0 [.ref 1, .int x, am_ph] [] h = some (some (.int (f_save A x)), h1) ∧ cI h1 (g_save A x) ∧ cF h h1 cN := by
  have L := I.1
  have g := L.g
  rw [am_b81_0, if_pos L.k1, L.sl, x_oe, if_pos (show 5 ≤ am_kd h 19 ∧ am_kd h 19 ≤ 9 by rw [L.k19]; omega), x_ofNat, L.l19, c_slot]
  unfold f_save g_save
  by_cases h1 : 0 ≤ x.toInt ∧ x.toInt ≤ 1
  · rw [if_pos h1, if_pos h1, if_pos h1]
    obtain ⟨n, rfl, en, hn⟩ := q_pl2 h1
    rw [en, x_cl (by omega), if_pos L.k1, x_oe, if_pos ⟨L.k19, fun z => z.elim (nI_pos (by omega)) (by rw [L.l19]; omega)⟩, ← w.sF6]
    cases e : am_R h 19 n with
    | some b =>
      rw [x_oe]
      obtain ⟨h1, e1, I1, f1⟩ := c_save42 I hn (b := b) (by unfold cr; rw [if_neg (by omega), show 6 + n - 6 = n by omega]; exact e)
      exact ⟨h1, e1, I1, f1.c (fun _ z => z)⟩
    | none =>
      obtain ⟨h4, e4, t4, o4, v4⟩ := s_ctor (h := h)
      obtain ⟨I6, r6, f6⟩ := I.newS hn e t4 o4 v4
      have k4 : am_kd h4 1 = 3 := (t_kd_lt t4 (by omega)).1.trans L.k1
      have r4 : am_R h4 1 4 = some 19 := by rw [(o4 1 (by omega)).2.2]; exact L.sl
      have k19 : am_kd h4 19 = 8 := (t_kd_lt t4 (by omega)).1.trans L.k19
      have l19 : am_ln h4 19 = 2 := (t_kd_lt t4 (by omega)).2.trans L.l19
      have kn : am_kd (am_nw h 2 5) h.1.length = 2 := (t_kd (M := am_nw h 2 5) (p := h.1) (l := [(2, 5)]) rfl 0).1
      show ∃ h1, (if am_kd (am_nw h 2 5) h.1.length = 2 then _ else none) = _ ∧ _
      rw [if_pos kn, e4, x_bV, if_pos k4, r4, x_oe, if_pos ⟨k19, fun z => z.elim (nI_pos (by omega)) (by rw [l19]; omega)⟩, if_pos v4.1.1]
      obtain ⟨h1, e1, I1, f1⟩ := c_save42 I6 hn r6
      dsimp only at I1
      rw [am_ud_ud] at I1
      exact ⟨h1, e1, I1, f6.tr f1⟩
  · rw [if_neg h1, if_neg h1, if_neg h1]
    exact ⟨h, rfl, I, am_fr.rf.c (fun _ z => z)⟩
theorem c_restore (I : cI h A) (w : ∀ i s, i < 2 → A.2.2.1 i = some s → q_wf s) (x : Int32) : ∃ h1, am_ev 82 0 [.ref 1, .int x, am_ph] [] h = some (some (.int (f_restore A x)), h1) ∧ cI h1 (g_restore A x) ∧ cF h h1 cN := by
  have L := I.1
  rw [am_b82_0, if_pos L.k1, L.sl, x_oe, if_pos (show 5 ≤ am_kd h 19 ∧ am_kd h 19 ≤ 9 by rw [L.k19]; omega), x_ofNat, L.l19, c_slot]
  unfold f_restore g_restore
  by_cases h1 : 0 ≤ x.toInt ∧ x.toInt ≤ 1
  · rw [if_pos h1, if_pos h1, if_pos h1]
    obtain ⟨n, rfl, en, hn⟩ := q_pl2 h1
    rw [en, x_cl (by omega), if_pos L.k1, x_oe, if_pos ⟨L.k19, fun z => z.elim (nI_pos (by omega)) (by rw [L.l19]; omega)⟩]
    have i5 := I.2.2.2.2.1 n hn
    have ww := w n
    cases es : A.2.2.1 n with
    | none =>
      rw [es] at i5
      unfold cS at i5
      rw [i5]
      exact ⟨h, rfl, I, am_fr.rf.c (fun _ z => z)⟩
    | some s =>
      rw [es] at i5
      unfold cS at i5
      obtain ⟨a, ea, va⟩ := i5
      have wz := ww s hn es
      obtain ⟨h2, e2, I2, f2, g2, -⟩ := I.rec'
      have i5 := I2.2.2.2.2.1 n hn
      dsimp only at i5
      rw [es] at i5
      unfold cS at i5
      obtain ⟨a', ea', va'⟩ := i5
      rw [g2, ea] at ea'
      injection ea' with ea'
      subst ea'
      have q := I2.2.1.2.1 (6 + n) (by omega) a (by unfold cr; rw [if_neg (by omega), show 6 + n - 6 = n by omega, g2]; exact ea)
      obtain ⟨h3, e3, f3, v3⟩ := s_copyFrom I2.S va' (Or.inl (by omega))
      have I3 := I2.now f3 v3
      rw [ea, x_oe, if_pos L.k1, e2, x_bV, if_pos I2.1.k1, I2.1.n, x_oe, if_pos I2.S.1, e3, x_bV, if_pos I3.1.k1, I3.1.n, x_oe, if_pos I3.S.1, I3.S.2.2.2.1, x_oe, I3.sF, x_bI]
      dsimp only
      rw [wz.sF6]
      exact ⟨h3, rfl, I3, f2.tr f3.now⟩
  · rw [if_neg h1, if_neg h1, if_neg h1]
    exact ⟨h, rfl, I, am_fr.rf.c (fun _ z => z)⟩
end class7
