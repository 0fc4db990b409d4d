/-! ===== the class: reading a text, character by character ===== -/
section cread2
variable {h : AH} {A : QA}
theorem c_accepts (L : cL h) (s : QP) (Q : cQ h s) (ch : Int32) : (p_step s ch = none ∧ am_ev 34 0 [.ref 15, .int ch] [] h = some (some (.int 0), h)) ∨ ∃ s' h1, p_step s ch = some s' ∧ am_ev 34 0 [.ref 15, .int ch] [] h = some (some (.int 1), h1) ∧ cT h h1 ∧ cQ h1 s' := by
  obtain ⟨d, r, k, p, g, c, N⟩ := s
  have Q' := Q
  obtain ⟨⟨q1, q2, q3, q4, q5, q6⟩, ⟨b1, b2, b3, b4, b5⟩, n1, n2, n3⟩ := Q
  dsimp only at q1 q2 q3 q4 q5 q6 b1 b2 b3 b4 b5 n1 n2 n3
  have k15 := L.k15
  have hk : ∀ (k : Nat) (v : Int32), am_kd (am_sI h 15 k v) 15 = 1 := fun k v => L.k15
  have hk2 : ∀ (k k2 : Nat) (v v2 : Int32), am_kd (am_sI (am_sI h 15 k v) 15 k2 v2) 15 = 1 := fun k k2 v v2 => L.k15
  rw [am_b34_0, if_pos k15, q1]
  rcases (show d = 0 ∨ d = 1 ∨ d = 2 ∨ d = 3 by omega) with rfl | rfl | rfl | rfl
  · rw [p_step0, if_pos rfl, x_c45]
    by_cases h1 : ch = nI 45
    · right
      rw [if_pos h1, if_pos h1, if_pos k15, am_b35_0, if_pos k15]
      try dsimp only
      rw [if_pos (hk 8 1), x_bI, if_pos (Or.inr rfl)]
      refine ⟨_, _, rfl, rfl, (cT.sI (by omega)).tr (cT.sI (by omega)), ⟨?_, ?_, ?_, ?_, ?_, ?_⟩, ⟨by simp, b2, by simp, by simp, ?_⟩, ?_, ?_, ?_⟩
      · show am_I _ 15 4 = nI 1
        rw [am_sI_I, am_ud_eq, x_c1]
      · simp only [x_I', x_ud']; simp; exact q2
      · simp only [x_I', x_ud']; simp; exact q3
      · simp only [x_I', x_ud']; simp; exact q4
      · show am_I _ 15 8 = nI 1
        rw [am_sI_I, am_ud_ne (by omega), am_sI_I, am_ud_eq, x_c1]
      · simp only [x_I', x_ud']; simp; exact q6
      · rcases b5 with ⟨y1, y2, z1, z2⟩ | ⟨y1, z0, z1, z2⟩
        · exact Or.inl ⟨y1, y2, z1, fun _ => z2 (by omega)⟩
        · exact Or.inr ⟨y1, z0, z1, fun _ => z2 (by omega)⟩
      · intro p' hp' j hj
        rw [am_sI_ne (by omega), am_sI_ne (by omega)]
        exact n1 p' hp' j hj
      · intro z
        rw [am_sI_ne (by omega), am_sI_ne (by omega)]
        exact n2 (Or.inr ⟨(z.resolve_left (by simp)).1, by omega⟩)
      · intro hr p' hp' j hj
        rw [am_sI_ne (by omega), am_sI_ne (by omega)]
        exact n3 hr p' hp' j hj
    · rw [if_neg h1, if_neg h1, if_pos k15]
      rcases c_digit L Q' (Or.inl rfl) ch with ⟨e1, e2⟩ | ⟨s', h2, e1, e2, T, Q2⟩
      · left
        rw [e2, x_bI, if_pos (Or.inl rfl)]
        exact ⟨e1, rfl⟩
      · right
        rw [e2, x_bI, if_pos (Or.inr rfl)]
        exact ⟨s', h2, e1, rfl, T, Q2⟩
  · rw [p_step1, if_neg (show ¬ nI 1 = nI 0 by decide), if_pos (show nI 1 = nI 1 from rfl), if_pos k15]
    rcases c_digit L Q' (Or.inr rfl) ch with ⟨e1, e2⟩ | ⟨s', h2, e1, e2, T, Q2⟩
    · left
      rw [e2, x_bI, if_pos (Or.inl rfl)]
      exact ⟨e1, rfl⟩
    · right
      rw [e2, x_bI, if_pos (Or.inr rfl)]
      exact ⟨s', h2, e1, rfl, T, Q2⟩
  · rw [p_step2, if_neg (show ¬ nI 2 = nI 0 by decide), if_neg (show ¬ nI 2 = nI 1 by decide), if_pos (show nI 2 = nI 2 from rfl), x_c44]
    by_cases h1 : ch = nI 44
    · right
      rw [if_pos h1, if_pos h1, if_pos k15, am_b37_0, if_pos k15]
      try dsimp only
      rw [if_pos (hk 7 1), x_bI, if_neg (by decide)]
      refine ⟨_, _, rfl, rfl, (cT.sI (by omega)).tr (cT.sI (by omega)), ⟨?_, ?_, ?_, ?_, ?_, ?_⟩, ⟨by simp, by simp, b3, by simp, ?_⟩, ?_, ?_, ?_⟩
      · show am_I _ 15 4 = nI 0
        rw [am_sI_I, am_ud_eq, nI_0]
      · simp only [x_I', x_ud']; simp; exact q2
      · simp only [x_I', x_ud']; simp; exact q3
      · show am_I _ 15 7 = nI 1
        rw [am_sI_I, am_ud_ne (by omega), am_sI_I, am_ud_eq, x_c1]
      · simp only [x_I', x_ud']; simp; exact q5
      · simp only [x_I', x_ud']; simp; exact q6
      · rcases b5 with ⟨y1, y2, z1, z2⟩ | ⟨y1, z0, z1, z2⟩
        · exact Or.inl ⟨y1, y2, z1, fun _ => z2 (by omega)⟩
        · exact Or.inr ⟨y1, z0, z1, fun _ => z2 (by omega)⟩
      · intro p' hp' j hj
        rw [am_sI_ne (by omega), am_sI_ne (by omega)]
        exact n1 p' hp' j hj
      · intro z
        rw [am_sI_ne (by omega), am_sI_ne (by omega)]
        exact n2 (Or.inl rfl)
      · intro hr p' hp' j hj
        rw [am_sI_ne (by omega), am_sI_ne (by omega)]
        exact n3 hr p' hp' j hj
    · left
      rw [if_neg h1, if_neg h1]
      exact ⟨rfl, rfl⟩
  · rw [p_step3, if_neg (show ¬ nI 3 = nI 0 by decide), if_neg (show ¬ nI 3 = nI 1 by decide), if_neg (show ¬ nI 3 = nI 2 by decide), x_c47, x_c59]
    by_cases h1 : ch = nI 47
    · rw [if_pos h1, if_pos h1, if_pos k15, am_b39_0, if_pos k15, q2, q3, x_c2]
      simp only [x_eq0 (show r < 2147483648 by omega), x_lt (show k < 2147483648 by omega) (show 2 < 2147483648 by omega)]
      by_cases h2 : r ≠ 0 ∨ k < 2
      · left
        rw [if_pos h2]
        refine ⟨rfl, ?_⟩
        by_cases h3 : r = 0
        · rw [if_pos h3, if_pos k15, if_pos (by omega), x_bI, if_pos (Or.inl rfl)]
        · rw [if_neg h3, x_bI, if_pos (Or.inl rfl)]
      · right
        have hr : r = 0 := by omega
        have hc : c = 0 := by omega
        have hk3 : k ≤ 3 := by omega
        subst hr hc
        rw [if_neg h2, if_pos rfl, if_pos k15, if_neg (by omega), if_pos k15, if_pos k15]
        try dsimp only
        have h3 : ∀ (M : AH) (k : Nat) (v : Int32), am_kd M 15 = 1 → am_kd (am_sI M 15 k v) 15 = 1 := fun _ _ _ e => e
        rw [if_pos (hk _ _), if_pos (h3 _ _ _ (hk _ _)), if_pos (h3 _ _ _ (h3 _ _ _ (hk _ _))), if_pos (h3 _ _ _ (h3 _ _ _ (h3 _ _ _ (hk _ _)))), x_bI, if_pos (Or.inr rfl)]
        refine ⟨_, _, rfl, rfl, ((((cT.sI (by omega)).tr (cT.sI (by omega))).tr (cT.sI (by omega))).tr (cT.sI (by omega))).tr (cT.sI (by omega)), ⟨?_, ?_, ?_, ?_, ?_, ?_⟩, ⟨by simp, by simp, b3, by simp, Or.inr ⟨rfl, ?_, by simp, ?_⟩⟩, ?_, ?_, ?_⟩
        · show am_I _ 15 4 = nI 0
          rw [am_sI_I, am_ud_eq, nI_0]
        · show am_I _ 15 5 = nI 1
          rw [am_sI_I, am_ud_ne (by omega), am_sI_I, am_ud_ne (by omega), am_sI_I, am_ud_ne (by omega), am_sI_I, am_ud_eq, x_c1]
        · show am_I _ 15 6 = nI 0
          rw [am_sI_I, am_ud_ne (by omega), am_sI_I, am_ud_ne (by omega), am_sI_I, am_ud_eq, nI_0]
        · show am_I _ 15 7 = nI 0
          rw [am_sI_I, am_ud_ne (by omega), am_sI_I, am_ud_eq, nI_0]
        · show am_I _ 15 8 = nI g
          rw [am_sI_I, am_ud_ne (by omega), am_sI_I, am_ud_ne (by omega), am_sI_I, am_ud_ne (by omega), am_sI_I, am_ud_ne (by omega), am_sI_I, am_ud_ne (by omega)]
          exact q5
        · show am_I _ 15 1 = nI k
          rw [am_sI_I, am_ud_ne (by omega), am_sI_I, am_ud_ne (by omega), am_sI_I, am_ud_ne (by omega), am_sI_I, am_ud_ne (by omega), am_sI_I, am_ud_eq]
        · show k = 2 ∨ k = 3
          omega
        · intro _
          show 0 < k
          omega
        · intro p' hp' j hj
          exact absurd hj (by simp)
        · intro z
          exact absurd z (by simp)
        · intro _ p' hp' j hj
          have := n1 p' hp' j hj
          rw [Nat.zero_mul, Nat.add_zero] at this
          rw [am_sI_ne (by omega), am_sI_ne (by omega), am_sI_ne (by omega), am_sI_ne (by omega), am_sI_ne (by omega)]
          exact this
    · rw [if_neg h1, if_neg h1]
      by_cases h2 : ch = nI 59
      · have hm : (if r = 0 then 3 else c) < 2147483648 := by split <;> omega
        have e38 : am_ev 38 0 [.ref 15, am_ph] [] h = am_ev 38 15 [.ref 15, am_ph] [.int (nI (if r = 0 then 3 else c))] h := by
          rw [am_b38_0, if_pos k15, q2, q6]
          simp only [x_eq0 (show r < 2147483648 by omega)]
          by_cases h3 : r = 0
          · rw [if_pos h3, if_pos h3, x_c3]
          · rw [if_neg h3, if_neg h3, if_pos k15]
        rw [if_pos h2, if_pos h2, if_pos k15, e38, am_b38_15, if_pos k15, q3]
        simp only [x_lt (show k < 2147483648 by omega) hm]
        by_cases h3 : (if r = 0 then 3 else c) ≤ k
        · left
          rw [if_pos h3, if_neg (by omega), x_bI, if_pos rfl]
          exact ⟨rfl, rfl⟩
        · right
          rw [if_neg h3, if_pos (by omega), if_pos k15]
          try dsimp only
          rw [if_pos (hk 7 0), x_bI, if_neg (by decide)]
          refine ⟨_, _, rfl, rfl, (cT.sI (by omega)).tr (cT.sI (by omega)), ⟨?_, ?_, ?_, ?_, ?_, ?_⟩, ⟨by simp, by simp, b3, by simp, ?_⟩, ?_, ?_, ?_⟩
          · show am_I _ 15 4 = nI 0
            rw [am_sI_I, am_ud_eq, nI_0]
          · simp only [x_I', x_ud']; simp; exact q2
          · simp only [x_I', x_ud']; simp; exact q3
          · show am_I _ 15 7 = nI 0
            rw [am_sI_I, am_ud_ne (by omega), am_sI_I, am_ud_eq, nI_0]
          · simp only [x_I', x_ud']; simp; exact q5
          · simp only [x_I', x_ud']; simp; exact q6
          · rcases b5 with ⟨rfl, y2, z1, z2⟩ | ⟨rfl, z0, z1, z2⟩
            · rw [if_pos rfl] at h3
              exact Or.inl ⟨rfl, y2, z1, fun _ => by show k < 3; omega⟩
            · rw [if_neg (by omega)] at h3
              exact Or.inr ⟨rfl, z0, z1, fun _ => by show k < c; omega⟩
          · intro p' hp' j hj
            rw [am_sI_ne (by omega), am_sI_ne (by omega)]
            exact n1 p' hp' j hj
          · intro z
            exact absurd z (by simp)
          · intro hr p' hp' j hj
            rw [am_sI_ne (by omega), am_sI_ne (by omega)]
            exact n3 hr p' hp' j hj
      · left
        rw [if_neg h2, if_neg h2]
        exact ⟨rfl, rfl⟩
end cread2
