/-! ===== the class: reading a text ===== -/
def cQ (h : AH) (s : QP) : Prop := (am_I h 15 4 = nI s.1 ∧ am_I h 15 5 = nI s.2.1 ∧ am_I h 15 6 = nI s.2.2.1 ∧ am_I h 15 7 = nI s.2.2.2.1 ∧ am_I h 15 8 = nI s.2.2.2.2.1 ∧ am_I h 15 1 = nI s.2.2.2.2.2.1) ∧ (s.1 ≤ 3 ∧ s.2.2.2.1 ≤ 1 ∧ s.2.2.2.2.1 ≤ 1 ∧ (s.1 = 2 → s.2.2.2.1 = 0) ∧ (s.2.1 = 0 ∧ s.2.2.2.2.2.1 = 0 ∧ s.2.2.1 ≤ 3 ∧ (s.1 ≠ 3 → s.2.2.1 < 3) ∨ s.2.1 = 1 ∧ (s.2.2.2.2.2.1 = 2 ∨ s.2.2.2.2.2.1 = 3) ∧ s.2.2.1 ≤ s.2.2.2.2.2.1 ∧ (s.1 ≠ 3 → s.2.2.1 < s.2.2.2.2.2.1))) ∧ (∀ p, p < 2 → ∀ j, j < s.2.2.1 → am_I h 17 (6 * p + s.2.2.2.2.2.1 * s.2.1 + j) = s.2.2.2.2.2.2 p s.2.1 j) ∧ (s.1 = 2 ∨ s.2.2.2.1 = 1 ∧ s.1 ≠ 3 → am_I h 17 (s.2.2.2.2.2.1 * s.2.1 + s.2.2.1) = s.2.2.2.2.2.2 0 s.2.1 s.2.2.1) ∧ (s.2.1 = 1 → ∀ p, p < 2 → ∀ j, j < s.2.2.2.2.2.1 → am_I h 17 (6 * p + j) = s.2.2.2.2.2.2 p 0 j)
def cT (h h1 : AH) : Prop := am_fr h h1 (fun b => b = 15 ∨ b = 17) ∧ am_I h1 15 0 = am_I h 15 0
theorem cT.rf {h : AH} : cT h h := ⟨am_fr.rf, rfl⟩
theorem cT.tr {h h1 h2 : AH} (a : cT h h1) (b : cT h1 h2) : cT h h2 := ⟨a.1.tr b.1, b.2.trans a.2⟩
theorem cT.I {h h1 : AH} {A : QA} (T : cT h h1) (I : cI h A) : cI h1 A := I.pd (T.1.wk (fun b z => z.elim Or.inl (fun z => Or.inr (Or.inr z)))) (T.2.trans I.2.2.2.2.2.1) I.2.2.2.2.2.2.1 (fun k hk => by rw [T.1.2.2.1 16 (by omega)]; exact I.2.2.2.2.2.2.2 k hk)
theorem cT.sI {h : AH} {k : Nat} {v : Int32} (hk : k ≠ 0) : cT h (am_sI h 15 k v) := ⟨am_sI_fr (Or.inl rfl), by rw [am_sI_I, am_ud_ne (by omega)]⟩
theorem cT.sN {h : AH} {k : Nat} {v : Int32} : cT h (am_sI h 17 k v) := ⟨am_sI_fr (Or.inr rfl), by rw [am_sI_ne (by omega)]⟩
section cread
variable {h : AH} {A : QA}
theorem c_digit (L : cL h) {d r k p g c : Nat} {N : Nat → Nat → Nat → Int32} (Q : cQ h (d, r, k, p, g, c, N)) (hd : d = 0 ∨ d = 1) (ch : Int32) : (p_dig r k p g c N ch = none ∧ am_ev 36 0 [.ref 15, .int ch, am_ph] [] h = some (some (.int 0), h)) ∨ ∃ s' h1, p_dig r k p g c N ch = some s' ∧ am_ev 36 0 [.ref 15, .int ch, am_ph] [] h = some (some (.int 1), h1) ∧ cT h h1 ∧ cQ h1 s' := by
  unfold p_dig
  rw [am_b36_0, c_rng (p := 48) (q := 57) rfl rfl]
  by_cases h1 : 48 ≤ ch.toInt ∧ ch.toInt ≤ 57
  · right
    rw [if_pos h1, if_pos h1, if_pos L.k15]
    obtain ⟨⟨q1, q2, q3, q4, q5, q6⟩, ⟨b1, b2, b3, b4, b5⟩, n1, n2, n3⟩ := Q
    dsimp only at q1 q2 q3 q4 q5 q6 b1 b2 b3 b4 b5 n1 n2 n3
    have hg : (am_I h 15 8 = 0) = (g = 0) := by rw [q5]; exact x_eq0 (by omega)
    have eg : (if am_I h 15 8 = 0 then am_ev 36 32 [.ref 15, am_ph, am_ph] [.int (ch - (48 : Int32))] h else am_ev 36 32 [.ref 15, am_ph, am_ph] [.int ((48 : Int32) - ch)] h) = am_ev 36 32 [.ref 15, am_ph, am_ph] [.int (if g = 0 then ch - 48 else 48 - ch)] h := by
      simp only [hg]
      split <;> rfl
    rw [eg]
    generalize (if g = 0 then ch - 48 else 48 - ch) = v
    have hx : 6 * p + c * r + k < 12 := by
      rcases b5 with ⟨rfl, rfl, z1, z2⟩ | ⟨rfl, z0, z1, z2⟩
      · have := z2 (by omega); omega
      · have := z2 (by omega); omega
    have ei : nI p * (6 : Int32) + nI c * nI r + nI k = nI (6 * p + c * r + k) := by
      rw [x_c6, pk_mul, pk_mul, nI_add, nI_add, Nat.mul_comm p 6]
    have hM : am_kd (am_sI h 17 (6 * p + c * r + k) v) 15 = 1 := L.k15
    rw [am_b36_32, if_pos L.k15, L.p3, x_oe, if_pos L.k15, if_pos L.k15, if_pos L.k15, if_pos L.k15, q4, q6, q2, q3, ei, s_setAmount L.k17 (by rw [L.l17]; omega) (by omega) (by rw [L.l17]; omega), x_bV, if_pos hM]
    have e7 : am_I (am_sI (am_sI h 17 (6 * p + c * r + k) v) 15 8 0) 15 7 = nI p := by rw [am_sI_I, am_ud_ne (by omega), am_sI_ne (by omega)]; exact q4
    have hM2 : am_kd (am_sI (am_sI h 17 (6 * p + c * r + k) v) 15 8 0) 15 = 1 := L.k15
    try dsimp only
    rw [if_pos hM2, e7]
    simp only [x_eq0 (show p < 2147483648 by omega)]
    by_cases hp : p = 0
    · subst hp
      rw [if_pos rfl, if_pos hM2]
      refine ⟨_, _, rfl, rfl, cT.sN.tr ((cT.sI (by omega)).tr (cT.sI (by omega))), ?_⟩
      refine ⟨⟨?_, ?_, ?_, ?_, ?_, ?_⟩, ⟨?_, ?_, ?_, ?_, ?_⟩, ?_, ?_, ?_⟩
      · show am_I _ 15 4 = nI 2
        rw [am_sI_I, am_ud_eq, x_c2]
      · simp only [x_I', x_ud']; simp; exact q2
      · simp only [x_I', x_ud']; simp; exact q3
      · simp only [x_I', x_ud']; simp; exact q4
      · show am_I _ 15 8 = nI 0
        rw [am_sI_I, am_ud_ne (by omega), am_sI_I, am_ud_eq, nI_0]
      · simp only [x_I', x_ud']; simp; exact q6
      · simp
      · simp
      · simp
      · simp
      · simp only [if_true]
        rcases b5 with ⟨rfl, rfl, z1, z2⟩ | ⟨rfl, z0, z1, z2⟩
        · exact Or.inl ⟨rfl, rfl, by omega, fun _ => z2 (by omega)⟩
        · exact Or.inr ⟨rfl, z0, by omega, fun _ => z2 (by omega)⟩
      · intro p' hp' j hj
        simp only [if_true] at hj ⊢
        rw [am_sI_ne (by omega), am_sI_ne (by omega), am_sI_I, am_ud_ne (by omega), p_set_ne (by omega)]
        exact n1 p' hp' j hj
      · intro _
        simp only [if_true]
        rw [am_sI_ne (by omega), am_sI_ne (by omega), am_sI_I, p_set_eq, show 6 * 0 + c * r + k = c * r + k by omega, am_ud_eq]
      · intro hr p' hp' j hj
        have hr : r = 1 := hr
        subst hr
        try dsimp only at hj ⊢
        rw [am_sI_ne (by omega), am_sI_ne (by omega), am_sI_I, am_ud_ne (by omega), p_set_ne (by omega)]
        exact n3 rfl p' hp' j hj
    · have hp1 : p = 1 := by omega
      subst hp1
      have hk5 : c * r + k < 6 := by omega
      have e6 : am_I (am_sI (am_sI (am_sI h 17 (6 * 1 + c * r + k) v) 15 8 0) 15 4 3) 15 6 = nI k := by rw [am_sI_I, am_ud_ne (by omega), am_sI_I, am_ud_ne (by omega), am_sI_ne (by omega)]; exact q3
      have hM3 : am_kd (am_sI (am_sI (am_sI h 17 (6 * 1 + c * r + k) v) 15 8 0) 15 4 3) 15 = 1 := L.k15
      simp only [show ¬ (1 : Nat) = 0 by omega, if_false]
      rw [if_pos hM2, if_pos hM3, if_pos hM3, e6, nI_1]
      refine ⟨_, _, rfl, rfl, cT.sN.tr ((cT.sI (by omega)).tr ((cT.sI (by omega)).tr (cT.sI (by omega)))), ?_⟩
      have hd3 : d ≠ 3 := by omega
      refine ⟨⟨?_, ?_, ?_, ?_, ?_, ?_⟩, ⟨?_, ?_, ?_, ?_, ?_⟩, ?_, ?_, ?_⟩
      · show am_I _ 15 4 = nI 3
        rw [am_sI_I, am_ud_ne (by omega), am_sI_I, am_ud_eq, x_c3]
      · simp only [x_I', x_ud']; simp; exact q2
      · show am_I _ 15 6 = nI (k + 1)
        rw [am_sI_I, am_ud_eq]
      · simp only [x_I', x_ud']; simp; exact q4
      · show am_I _ 15 8 = nI 0
        rw [am_sI_I, am_ud_ne (by omega), am_sI_I, am_ud_ne (by omega), am_sI_I, am_ud_eq, nI_0]
      · simp only [x_I', x_ud']; simp; exact q6
      · simp
      · simp
      · simp
      · simp
      · simp only [show ¬ (1 : Nat) = 0 by omega, if_false]
        rcases b5 with ⟨rfl, rfl, z1, z2⟩ | ⟨rfl, z0, z1, z2⟩
        · exact Or.inl ⟨rfl, rfl, by have := z2 hd3; omega, fun z => absurd rfl z⟩
        · exact Or.inr ⟨rfl, z0, by have := z2 hd3; omega, fun z => absurd rfl z⟩
      · intro p' hp' j hj
        simp only [show ¬ (1 : Nat) = 0 by omega, if_false] at hj ⊢
        rw [am_sI_ne (by omega), am_sI_ne (by omega), am_sI_ne (by omega), am_sI_I]
        by_cases hj2 : j = k
        · subst hj2
          by_cases hp2 : p' = 1
          · subst hp2
            rw [am_ud_eq, p_set_eq]
          · obtain rfl : p' = 0 := by omega
            rw [am_ud_ne (by omega), p_set_ne (by omega), show 6 * 0 + c * r + j = c * r + j by omega]
            exact n2 (Or.inr ⟨rfl, hd3⟩)
        · rw [am_ud_ne (by omega), p_set_ne (by omega)]
          exact n1 p' hp' j (by omega)
      · intro z
        exact absurd z (by simp)
      · intro hr p' hp' j hj
        have hr : r = 1 := hr
        subst hr
        try dsimp only at hj ⊢
        rw [am_sI_ne (by omega), am_sI_ne (by omega), am_sI_ne (by omega), am_sI_I, am_ud_ne (by omega), p_set_ne (by omega)]
        exact n3 rfl p' hp' j hj
  · left
    rw [if_neg h1, if_neg h1]
    exact ⟨rfl, rfl⟩
end cread
