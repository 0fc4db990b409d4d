/-! ===== the class: a new State ===== -/
theorem t_kd {M : AH} {p l : List (Nat × Nat)} (e : M.1 = p ++ l) (i : Nat) : am_kd M (p.length + i) = (l.getD i (99, 0)).1 ∧ am_ln M (p.length + i) = (l.getD i (99, 0)).2 := by
  unfold am_kd am_ln
  rw [e]
  simp [List.getD_eq_getElem?_getD, List.getElem?_append_right]
theorem t_kd_lt {M h : AH} {l : List (Nat × Nat)} (e : M.1 = h.1 ++ l) {b : Nat} (hb : b < h.1.length) : am_kd M b = am_kd h b ∧ am_ln M b = am_ln h b := by
  unfold am_kd am_ln
  rw [e]
  simp [List.getD_eq_getElem?_getD, List.getElem?_append_left hb]
/-- a state's place has been laid, all at 0 -/
theorem s_ctor {h : AH} : ∃ h2, am_ev 40 0 [.ref h.1.length] [] (am_nw h 2 5) = some (none, h2) ∧ h2.1 = h.1 ++ [(2, 5), (5, 12), (5, 6), (5, 6)] ∧ (∀ b, b < h.1.length → am_I h2 b = am_I h b ∧ am_J h2 b = am_J h b ∧ am_R h2 b = am_R h b) ∧ sV h2 h.1.length (q_new 2 1) := by
  generalize ha : h.1.length = a
  have kd : ∀ {M : AH} {l : List (Nat × Nat)}, M.1 = h.1 ++ ((2, 5) :: l) → am_kd M a = 2 := by
    intro M l e
    have := (t_kd e 0).1
    rw [Nat.add_zero, ha] at this
    exact this
  have hl : ∀ (i : Nat) (l : List (Nat × Nat)), l.length = i → (h.1 ++ l).length = a + i := by
    intro i l e
    rw [List.length_append, ha, e]
  generalize e1 : am_nw h 2 5 = h1
  have t1 : h1.1 = h.1 ++ [(2, 5)] := by rw [← e1]; rfl
  have o1 : (∀ b, b < a → am_I h1 b = am_I h b ∧ am_J h1 b = am_J h b ∧ am_R h1 b = am_R h b) := fun b hb => by
    rw [← e1]
    exact ⟨am_ud_ne (by omega), am_ud_ne (by omega), am_ud_ne (by omega)⟩
  rw [am_b40_0, if_pos (kd t1)]
  generalize e2 : am_sI h1 a 0 2 = h2
  have t2 : h2.1 = h.1 ++ [(2, 5)] := by rw [← e2]; exact t1
  try dsimp only
  rw [if_pos (kd t2)]
  generalize e3 : am_sI h2 a 1 1 = h3
  have t3 : h3.1 = h.1 ++ [(2, 5)] := by rw [← e3]; exact t2
  have i3 : am_I h3 a 0 = 2 ∧ am_I h3 a 1 = 1 := by rw [← e3, ← e2]; exact ⟨by rw [am_sI_I, am_ud_ne (by omega), am_sI_I, am_ud_eq], by rw [am_sI_I, am_ud_eq]⟩
  have o3 : (∀ b, b < a → am_I h3 b = am_I h b ∧ am_J h3 b = am_J h b ∧ am_R h3 b = am_R h b) := fun b hb => by
    rw [← e3, ← e2]
    have := o1 b hb
    exact ⟨by rw [am_sI_ne (by omega), am_sI_ne (by omega)]; exact this.1, this.2.1, this.2.2⟩
  rw [am_b40_14]
  have l3 : h3.1.length = a + 1 := by rw [t3]; exact hl 1 _ rfl
  rw [l3]
  generalize e4 : am_nw h3 5 12 = h4
  have t4 : h4.1 = h.1 ++ [(2, 5), (5, 12)] := by rw [← e4]; show h3.1 ++ _ = _; rw [t3]; simp
  have i4 : ∀ b, b < a + 1 → am_I h4 b = am_I h3 b ∧ am_J h4 b = am_J h3 b ∧ am_R h4 b = am_R h3 b := fun b hb => by
    rw [← e4]
    exact ⟨am_ud_ne (by omega), am_ud_ne (by omega), am_ud_ne (by omega)⟩
  try dsimp only
  rw [if_pos (kd t4)]
  generalize e5 : am_sR h4 a 2 (some (a + 1)) = h5
  have t5 : h5.1 = h.1 ++ [(2, 5), (5, 12)] := by rw [← e5]; exact t4
  have l5 : h5.1.length = a + 2 := by rw [t5]; exact hl 2 _ rfl
  try dsimp only
  rw [l5]
  generalize e6 : am_nw h5 5 6 = h6
  have t6 : h6.1 = h.1 ++ [(2, 5), (5, 12), (5, 6)] := by rw [← e6]; show h5.1 ++ _ = _; rw [t5]; simp
  have i6 : ∀ b, b < a + 2 → am_I h6 b = am_I h5 b ∧ am_J h6 b = am_J h5 b ∧ am_R h6 b = am_R h5 b := fun b hb => by
    rw [← e6]
    exact ⟨am_ud_ne (by omega), am_ud_ne (by omega), am_ud_ne (by omega)⟩
  rw [if_pos (kd t6)]
  generalize e7 : am_sR h6 a 3 (some (a + 2)) = h7
  have t7 : h7.1 = h.1 ++ [(2, 5), (5, 12), (5, 6)] := by rw [← e7]; exact t6
  have l7 : h7.1.length = a + 3 := by rw [t7]; exact hl 3 _ rfl
  rw [am_b40_30, l7]
  generalize e8 : am_nw h7 5 6 = h8
  have t8 : h8.1 = h.1 ++ [(2, 5), (5, 12), (5, 6), (5, 6)] := by rw [← e8]; show h7.1 ++ _ = _; rw [t7]; simp
  have i8 : ∀ b, b < a + 3 → am_I h8 b = am_I h7 b ∧ am_J h8 b = am_J h7 b ∧ am_R h8 b = am_R h7 b := fun b hb => by
    rw [← e8]
    exact ⟨am_ud_ne (by omega), am_ud_ne (by omega), am_ud_ne (by omega)⟩
  try dsimp only
  rw [if_pos (kd t8)]
  generalize e9 : am_sR h8 a 4 (some (a + 3)) = h9
  have t9 : h9.1 = h.1 ++ [(2, 5), (5, 12), (5, 6), (5, 6)] := by rw [← e9]; exact t8
  rw [if_pos (kd t9)]
  have I9 : am_I h9 a = am_I h3 a := by
    rw [← e9]
    show am_I h8 a = _
    rw [(i8 a (by omega)).1, ← e7]
    show am_I h6 a = _
    rw [(i6 a (by omega)).1, ← e5]
    show am_I h4 a = _
    exact (i4 a (by omega)).1
  have R9 : am_R h9 a = am_ud (am_ud (am_ud (am_R h3 a) 2 (some (a + 1))) 3 (some (a + 2))) 4 (some (a + 3)) := by
    have r5 : am_R h5 a = am_ud (am_R h3 a) 2 (some (a + 1)) := by
      rw [← e5]
      show am_ud _ a _ a = _
      rw [am_ud_eq, (i4 a (by omega)).2.2]
    have r7 : am_R h7 a = am_ud (am_ud (am_R h3 a) 2 (some (a + 1))) 3 (some (a + 2)) := by
      rw [← e7]
      show am_ud _ a _ a = _
      rw [am_ud_eq, (i6 a (by omega)).2.2, r5]
    rw [← e9]
    show am_ud _ a _ a = _
    rw [am_ud_eq, (i8 a (by omega)).2.2, r7]
  have o9 : (∀ b, b < a → am_I h9 b = am_I h b ∧ am_J h9 b = am_J h b ∧ am_R h9 b = am_R h b) := fun b hb => by
    have a8 := i8 b (by omega)
    have a6 := i6 b (by omega)
    have a4 := i4 b (by omega)
    have a3 := o3 b hb
    have r5 : am_R h5 b = am_R h4 b := by rw [← e5]; exact am_ud_ne (by omega)
    have r7 : am_R h7 b = am_R h6 b := by rw [← e7]; exact am_ud_ne (by omega)
    have r9 : am_R h9 b = am_R h8 b := by rw [← e9]; exact am_ud_ne (by omega)
    have n5 : am_I h5 b = am_I h4 b ∧ am_J h5 b = am_J h4 b := by rw [← e5]; exact ⟨rfl, rfl⟩
    have n7 : am_I h7 b = am_I h6 b ∧ am_J h7 b = am_J h6 b := by rw [← e7]; exact ⟨rfl, rfl⟩
    have n9 : am_I h9 b = am_I h8 b ∧ am_J h9 b = am_J h8 b := by rw [← e9]; exact ⟨rfl, rfl⟩
    exact ⟨by rw [n9.1, a8.1, n7.1, a6.1, n5.1, a4.1, a3.1], by rw [n9.2, a8.2.1, n7.2, a6.2.1, n5.2, a4.2.1, a3.2.1], by rw [r9, a8.2.2, r7, a6.2.2, r5, a4.2.2, a3.2.2]⟩
  have S9 : sS h9 a 2 := by
    have q0 := t_kd t9 0
    have q1 := t_kd t9 1
    have q2 := t_kd t9 2
    have q3 := t_kd t9 3
    rw [ha] at q0 q1 q2 q3
    refine ⟨q0.1, ?_, ?_, ?_, q1, q2, q3, by rw [I9]; exact i3.1, Or.inl rfl⟩
    · rw [R9, am_ud_ne (by omega), am_ud_ne (by omega), am_ud_eq]
    · rw [R9, am_ud_ne (by omega), am_ud_eq]
    · rw [R9, am_ud_eq]
  obtain ⟨h10, e10, f10, v10⟩ := s_startAnew S9 (Or.inl rfl)
  rw [show (.int (2 : Int32) : Value) = .int (nI 2) from rfl, e10, x_bV]
  refine ⟨h10, rfl, f10.1.trans t9, fun b hb => ?_, ?_⟩
  · have := o9 b hb
    exact ⟨(f10.2.2.1 b (fun z => absurd z.1 (by omega))).trans this.1, (f10.2.2.2 b (fun z => absurd z.1 (by omega))).trans this.2.1, by rw [f10.2.1]; exact this.2.2⟩
  · rw [I9, i3.2] at v10
    exact v10

