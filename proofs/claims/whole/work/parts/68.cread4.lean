/-! ===== the class: read ===== -/
theorem p_run_ok {t : Nat → Int32} : ∀ (d i : Nat) (s : QP), i + d ≤ 60 → (p_run t d i s).1 = -6 → (p_run t d i s).2.1 = 3 ∧ (p_run t d i s).2.2.1 = 1 ∧ (p_run t d i s).2.2.2.1 = (p_run t d i s).2.2.2.2.2.2.1 := by
  have hne : ∀ i : Nat, i ≤ 60 → ¬ nI i = -6 := by
    intro i hi z
    have := congrArg Int32.toInt z
    rw [nI_toInt (by omega), show (-6 : Int32).toInt = -6 from rfl] at this
    omega
  intro d
  induction d with
  | zero =>
    intro i s hi
    unfold p_run
    dsimp only
    by_cases h1 : s.1 = 3 ∧ s.2.1 = 1 ∧ s.2.2.1 = s.2.2.2.2.2.1
    · intro _; exact h1
    · rw [if_neg h1]
      intro z
      exact absurd z (hne i (by omega))
  | succ d ih =>
    intro i s hi
    unfold p_run
    cases p_step s (t i) with
    | none =>
      intro z
      exact absurd z (hne i (by omega))
    | some s' => exact ih (i + 1) s' (by omega)
section cread4
variable {h : AH} {A : QA}
theorem c_read42 {c p : Nat} {G : Nat → Int32} (hp : p < 2) : ∀ (d j : Nat) (h : AH) (A : QA), j + d = 2 * c → cI h A → A.1.1 = c → (∀ k, k < 12 → am_I h 17 k = G k) → (∀ k, k < 12 → (k < 6 * p + j → A.1.2.2.1 k = if k % 6 < 2 * c then G k else 0) ∧ (6 * p + j ≤ k → A.1.2.2.1 k = 0)) → ∃ h1 H, am_ev 68 42 [.ref 1, .int (nI p), .int (nI j)] [] h = am_ev 68 35 [.ref 1, .int (nI (p + 1)), am_ph] [] h1 ∧ cI h1 ((A.1.1, A.1.2.1, H, A.1.2.2.2.1, A.1.2.2.2.2), A.2) ∧ am_fr h h1 cN ∧ (∀ k, k < 12 → am_I h1 17 k = G k) ∧ ∀ k, k < 12 → (k < 6 * (p + 1) → H k = if k % 6 < 2 * c then G k else 0) ∧ (6 * (p + 1) ≤ k → H k = 0) := by
  intro d
  induction d with
  | zero =>
    intro j h A hj I hc hG hA
    have h6 := I.c6
    refine ⟨h, A.1.2.2.1, ?_, I, am_fr.rf, hG, fun k hk => ⟨fun h1 => ?_, fun h1 => (hA k hk).2 (by omega)⟩⟩
    · rw [am_b68_42, if_pos I.1.k1, I.1.n, x_oe, if_pos I.S.1, s_cells I.S, x_bI, if_neg (by rw [x_lt (by omega) (by omega)]; omega), nI_1]
    · by_cases h2 : k < 6 * p + j
      · exact (hA k hk).1 h2
      · rw [(hA k hk).2 (by omega), if_neg (by omega)]
  | succ d ih =>
    intro j h A hj I hc hG hA
    have h6 := I.c6
    have L := I.1
    have hj6 : j < 6 := by omega
    obtain ⟨h1, e1, f1, v1⟩ := s_setGain (v := G (6 * p + j)) I.2.2.1 hp hj6
    have I1 := I.now f1 v1
    have hG1 : ∀ k, k < 12 → am_I h1 17 k = G k := fun k hk => by rw [f1.2.2.1 17 (fun z => by obtain ⟨z1, z2⟩ := z; omega)]; exact hG k hk
    obtain ⟨h2, H, e2, I2, f2, hG2, hH⟩ := ih (j + 1) h1 _ (by omega) I1 hc hG1 (fun k hk => by
      dsimp only
      by_cases ek : k = 6 * p + j
      · subst ek
        rw [am_ud_eq]
        refine ⟨fun _ => ?_, fun z => by omega⟩
        rw [if_pos (by omega)]
      · rw [am_ud_ne ek]
        exact ⟨fun z => (hA k hk).1 (by omega), fun z => (hA k hk).2 (by omega)⟩)
    refine ⟨h2, H, ?_, I2, f1.now.tr f2, hG2, hH⟩
    have e32 : am_ev 32 0 [.ref 15, .int (nI p), .int (nI j)] [] h = some (some (.int (G (6 * p + j))), h) := by
      rw [am_b32_0, if_pos L.k15, L.p3, x_oe, x_c6, pk_mul, nI_add, s_amount L.k17 (by rw [L.l17]; omega) (by omega), if_pos (by rw [L.l17]; omega), x_bI, Nat.mul_comm p 6, hG _ (by omega)]
    rw [am_b68_42, if_pos L.k1, L.n, x_oe, if_pos I.S.1, s_cells I.S, x_bI, if_pos (by rw [x_lt (by omega) (by omega)]; omega), if_pos L.k1, L.n, x_oe, if_pos L.k1, L.p, x_oe, if_pos L.k15, e32, x_bI, if_pos I.S.1, e1, x_bV, nI_1]
    exact e2
theorem c_read (I : cI h A) : ∃ h1, am_ev 68 0 [.ref 1, am_ph, am_ph] [] h = some (some (.int (f_read A)), h1) ∧ cI h1 (g_read A) ∧ cF h h1 cN := by
  have L := I.1
  obtain ⟨h1, e1, T, Q⟩ := c_find I
  have I1 := T.I I
  have L1 := I1.1
  rw [am_b68_0, if_pos L.k1, L.p, x_oe, if_pos L.k15, e1, x_bI]
  have hn := I.2.2.2.2.2.2.1
  unfold f_fault at Q ⊢
  unfold f_read g_read
  by_cases hx : (p_all A).1 = -6
  · have Q := Q hx
    have ok := p_run_ok (t := A.2.2.2.2) (A.2.2.2.1 - 0) 0 (0, 0, 0, 0, 0, 0, fun _ _ _ => 0) (by omega) hx
    rw [if_pos hx, if_pos hx, if_pos hx]
    revert Q ok
    rw [show p_run A.2.2.2.2 (A.2.2.2.1 - 0) 0 (0, 0, 0, 0, 0, 0, fun _ _ _ => 0) = p_all A from rfl]
    generalize (p_all A).2 = s
    obtain ⟨d, r, k, p, g, c, N⟩ := s
    rintro ⟨⟨q1, q2, q3, q4, q5, q6⟩, ⟨b1, b2, b3, b4, b5⟩, n1, n2, n3⟩ ⟨o1, o2, o3⟩
    dsimp only at q1 q2 q3 q4 q5 q6 b1 b2 b3 b4 b5 n1 n2 n3 o1 o2 o3 ⊢
    subst o1 o2 o3
    have h3 : k = 2 ∨ k = 3 := by omega
    obtain ⟨h2, e2, I2, f2, g2, r2⟩ := I1.rec'
    have L2 := I2.1
    have e15 : am_I h2 15 1 = nI k := by rw [r2 15 (by omega) (by omega)]; exact q6
    obtain ⟨h3', e3, f3, v3⟩ := s_startAnew I2.S h3
    have I3 := I2.now f3 v3
    have ex : am_I h2 2 1 = A.1.2.1 := I2.2.2.1.2.1
    rw [ex] at I3
    have hG : ∀ k', k' < 12 → am_I h3' 17 k' = am_I h1 17 k' := fun k' _ => by rw [f3.2.2.1 17 (fun z => by obtain ⟨z1, z2⟩ := z; omega), r2 17 (by omega) (by omega)]
    obtain ⟨h4, H4, e4, I4, f4, hG4, hH4⟩ := c_read42 (c := k) (p := 0) (by omega) (2 * k) 0 h3' _ (by omega) I3 rfl hG (fun k' _ => ⟨fun z => by omega, fun _ => rfl⟩)
    obtain ⟨h5, H5, e5, I5, f5, hG5, hH5⟩ := c_read42 (c := k) (p := 1) (by omega) (2 * k) 0 h4 _ (by omega) I4 rfl hG4 (fun k' hk' => hH4 k' hk')
    have L5 := I5.1
    rw [if_pos L1.k1, e2, x_bV, if_pos L2.k1, L2.n, x_oe, if_pos L2.k1, L2.p, x_oe, if_pos L2.k15, if_pos I2.S.1, e15, e3, x_bV, am_b68_35, if_pos (by decide)]
    have e4' : am_ev 68 42 [.ref 1, .int (0 : Int32), .int (0 : Int32)] [] h3' = am_ev 68 35 [.ref 1, .int (nI 1), am_ph] [] h4 := e4
    rw [e4', am_b68_35, if_pos (by decide)]
    have e5' : am_ev 68 42 [.ref 1, .int (nI 1), .int (0 : Int32)] [] h4 = am_ev 68 35 [.ref 1, .int (nI 2), am_ph] [] h5 := e5
    rw [e5', am_b68_35, if_neg (by decide), if_pos L5.k1, L5.p, x_oe, if_pos L5.k15]
    have f6 : am_fr h5 (am_sI h5 15 0 0) (fun b => b = 15 ∨ b = 16 ∨ b = 17) := am_sI_fr (Or.inl rfl)
    have I6 := I5.pd f6 (n := 0) (P := A.2.2.2.2) (by rw [am_sI_I, am_ud_eq, nI_0]) (by omega) (fun k hk => absurd hk (by omega))
    try dsimp only
    rw [if_pos I6.1.k1, I6.1.n, x_oe, if_pos I6.S.1, I6.S.2.2.2.2.2.2.2.1]
    have fT : cF h h1 cN := T.F
    have fF : cF h (am_sI h5 15 0 0) cN := (cF.tl (T.1.wk (fun b z => Or.inr (Or.inl (by omega)))) f2).tr (f3.now.tr (f4.tr (f5.tr f6.pd)))
    have eH : ∀ x, x < 12 → H5 x = p_gains k N x := by
      intro x hx'
      rw [(hH5 x hx').1 (by omega)]
      unfold p_gains
      by_cases hm : x % 6 < 2 * k
      · rw [if_pos hm, if_pos hm]
        by_cases hr : x % 6 < k
        · have := n3 rfl (x / 6) (by omega) (x % 6) hr
          rw [show 6 * (x / 6) + x % 6 = x by omega] at this
          rw [this, Nat.div_eq_of_lt hr, Nat.mod_eq_of_lt hr]
        · have := n1 (x / 6) (by omega) (x % 6 - k) (by omega)
          rw [show 6 * (x / 6) + k * 1 + (x % 6 - k) = x by omega] at this
          rw [this]
          have hd1 : x % 6 / k = 1 := by rcases h3 with rfl | rfl <;> omega
          have hd2 : x % 6 % k = x % 6 - k := by rcases h3 with rfl | rfl <;> omega
          rw [hd1, hd2]
      · rw [if_neg hm, if_neg hm]
    refine ⟨_, rfl, ?_, fF⟩
    have v6 := I6.2.2.1
    have v7 : sV (am_sI h5 15 0 0) 2 (k, A.1.2.1, p_gains k N, fun k' => if k' < 2 * k then 1 else 0, fun _ => 0) := by
      obtain ⟨w1, w2, w3, w4, w5⟩ := v6
      exact ⟨w1, w2, fun x hx => (w3 x hx).trans (eH x hx), w4, w5⟩
    obtain ⟨i1, i2, i3, i4⟩ := I6
    exact ⟨i1, i2, v7, i4⟩
  · rw [if_neg hx, if_neg hx, if_neg hx]
    exact ⟨h1, rfl, I1, T.F⟩
end cread4
