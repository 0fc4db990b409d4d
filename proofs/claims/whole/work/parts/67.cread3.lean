/-! ===== the class: faults, read ===== -/
section cread3
variable {h : AH} {A : QA}
theorem c_run : ∀ (d i : Nat) (h : AH) (s : QP), i + d = A.2.2.2.1 → cI h A → cQ h s → ∃ h1, am_ev 33 32 [.ref 15, .int (nI i)] [] h = some (some (.int (p_run A.2.2.2.2 d i s).1), h1) ∧ cT h h1 ∧ ((p_run A.2.2.2.2 d i s).1 = -6 → cQ h1 (p_run A.2.2.2.2 d i s).2) := by
  intro d
  induction d with
  | zero =>
    intro i h s hi I Q
    have L := I.1
    have e0 : am_I h 15 0 = nI A.2.2.2.1 := I.2.2.2.2.2.1
    have hn := I.2.2.2.2.2.2.1
    refine ⟨h, ?_, cT.rf, fun _ => Q⟩
    obtain ⟨d, r, k, p, g, c, N⟩ := s
    obtain ⟨⟨q1, q2, q3, q4, q5, q6⟩, ⟨b1, b2, b3, b4, b5⟩, -⟩ := Q
    dsimp only at q1 q2 q3 q4 q5 q6 b1 b2 b3 b4 b5
    have e102 : ∀ v : Int32, am_ev 33 102 [.ref 15, am_ph] [.int v] h = some (some (.int (if v = 0 then nI A.2.2.2.1 else -6)), h) := by
      intro v
      rw [am_b33_102, if_pos L.k15, e0]
      split <;> rfl
    rw [am_b33_32, if_pos L.k15, e0, if_neg (by rw [x_lt (by omega) (by omega)]; omega), am_b33_70, if_pos L.k15, if_pos L.k15, if_pos L.k15, if_pos L.k15, q1, q2, q3, q6, e102, e102, x_c3, x_c1]
    have h1 : (nI d = nI 3) = (d = 3) := propext (nI_eq (by omega) (by omega))
    have h2 : (nI r = nI 1) = (r = 1) := propext (nI_eq (by omega) (by omega))
    have h3 : (nI k = nI c) = (k = c) := propext (nI_eq (by omega) (by omega))
    simp only [h1, h2, h3]
    unfold p_run
    dsimp only
    rw [show i = A.2.2.2.1 by omega, if_neg (show ¬ nI 1 = 0 by decide)]
    simp only [if_true]
    by_cases y1 : d = 3
    · rw [if_pos y1]
      by_cases y2 : r = 1
      · rw [if_pos y2]
        by_cases y3 : k = c
        · rw [if_pos y3, if_pos ⟨y1, y2, y3⟩]
        · rw [if_neg y3, if_neg (fun z => y3 z.2.2)]
      · rw [if_neg y2, if_neg (fun z => y2 z.2.1)]
    · rw [if_neg y1, if_neg (fun z => y1 z.1)]
  | succ d ih =>
    intro i h s hi I Q
    have L := I.1
    have e0 : am_I h 15 0 = nI A.2.2.2.1 := I.2.2.2.2.2.1
    have hn := I.2.2.2.2.2.2.1
    have et : am_I h 16 i = A.2.2.2.2 i := I.2.2.2.2.2.2.2 i (by omega)
    rw [am_b33_32, if_pos L.k15, e0, if_pos (by rw [x_lt (by omega) (by omega)]; omega), if_pos L.k15, L.p2, x_oe, if_pos (by rw [L.k16]; omega), x_ofNat, L.l16, if_pos (by rw [x_lt (by omega) (by omega)]; omega), if_pos L.k15, x_oe, x_cl (by omega), if_pos ⟨L.k16, fun z => z.elim (nI_pos (by omega)) (by rw [L.l16]; omega)⟩, if_pos L.k15, et]
    unfold p_run
    rcases c_accepts L s Q (A.2.2.2.2 i) with ⟨e1, e2⟩ | ⟨s', h2, e1, e2, T, Q2⟩
    · rw [e1, e2, x_bI, if_pos rfl]
      refine ⟨h, rfl, cT.rf, fun z => ?_⟩
      exfalso
      have := congrArg Int32.toInt z
      rw [nI_toInt (by omega)] at this
      rw [show (-6 : Int32).toInt = -6 from rfl] at this
      omega
    · obtain ⟨h3, e3, T3, Q3⟩ := ih (i + 1) h2 s' (by omega) (T.I I) Q2
      rw [e1, e2, x_bI, if_neg (by decide), nI_1]
      exact ⟨h3, e3, T.tr T3, Q3⟩
theorem c_find (I : cI h A) : ∃ h1, am_ev 33 0 [.ref 15, am_ph] [] h = some (some (.int (f_fault A)), h1) ∧ cT h h1 ∧ (f_fault A = -6 → cQ h1 (p_all A).2) := by
  have L := I.1
  have hk : ∀ (k : Nat) (v : Int32), am_kd (am_sI h 15 k v) 15 = 1 := fun k v => L.k15
  have h3 : ∀ (M : AH) (k : Nat) (v : Int32), am_kd M 15 = 1 → am_kd (am_sI M 15 k v) 15 = 1 := fun _ _ _ e => e
  rw [am_b33_0, if_pos L.k15]
  try dsimp only
  rw [if_pos (hk _ _), if_pos (h3 _ _ _ (hk _ _)), if_pos (h3 _ _ _ (h3 _ _ _ (hk _ _))), if_pos (h3 _ _ _ (h3 _ _ _ (h3 _ _ _ (hk _ _)))), if_pos (h3 _ _ _ (h3 _ _ _ (h3 _ _ _ (h3 _ _ _ (hk _ _)))))]
  generalize hM : am_sI (am_sI (am_sI (am_sI (am_sI (am_sI h 15 4 0) 15 5 0) 15 6 0) 15 7 0) 15 8 0) 15 1 0 = M
  have T : cT h M := by
    rw [← hM]
    exact (((((cT.sI (by omega)).tr (cT.sI (by omega))).tr (cT.sI (by omega))).tr (cT.sI (by omega))).tr (cT.sI (by omega))).tr (cT.sI (by omega))
  have Q : cQ M (0, 0, 0, 0, 0, 0, fun _ _ _ => 0) := by
    rw [← hM]
    refine ⟨⟨?_, ?_, ?_, ?_, ?_, ?_⟩, ⟨by simp, by simp, by simp, by simp, Or.inl ⟨rfl, rfl, by simp, by simp⟩⟩, fun p _ j hj => absurd hj (by simp), fun z => absurd z (by simp), fun z => absurd z (by simp)⟩
    all_goals (simp only [x_I', if_true]; unfold am_ud; simp [nI_0])
  unfold f_fault p_all
  rw [Nat.sub_zero]
  obtain ⟨h2, e2, T2, Q2⟩ := c_run A.2.2.2.1 0 M (0, 0, 0, 0, 0, 0, fun _ _ _ => 0) (by omega) (T.I I) Q
  rw [nI_0] at e2
  exact ⟨h2, e2, T.tr T2, Q2⟩
theorem cT.F {h1 : AH} (T : cT h h1) : cF h h1 cN := T.1.c (fun b z => Or.inr (Or.inl (by omega)))
theorem c_fault (I : cI h A) : ∃ h1, am_ev 79 0 [.ref 1] [] h = some (some (.int (f_fault A)), h1) ∧ cI h1 A ∧ cF h h1 cN := by
  have L := I.1
  obtain ⟨h1, e1, T, -⟩ := c_find I
  rw [am_b79_0, if_pos L.k1, L.p, x_oe, if_pos L.k15, e1, x_bI]
  exact ⟨h1, rfl, T.I I, T.F⟩
end cread3
