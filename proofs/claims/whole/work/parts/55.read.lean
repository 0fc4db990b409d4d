/-! ===== the Model's fault and read ===== -/
def p_all (A : QA) : Int32 × QP := p_run A.2.2.2.2 (A.2.2.2.1 - 0) 0 (0, 0, 0, 0, 0, 0, fun _ _ _ => 0)
def f_fault (A : QA) : Int32 := (p_all A).1
/-- the points that a reading tells -/
def p_gains (c : Nat) (N : Nat → Nat → Nat → Int32) : Nat → Int32 := fun x => if x % 6 < 2 * c then N (x / 6) (x % 6 / c) (x % 6 % c) else 0
def f_read (A : QA) : Int32 := if (p_all A).1 = -6 then nI (p_all A).2.2.2.2.2.2.1 else -3
def g_read (A : QA) : QA := if (p_all A).1 = -6 then (((p_all A).2.2.2.2.2.2.1, A.1.2.1, p_gains (p_all A).2.2.2.2.2.2.1 (p_all A).2.2.2.2.2.2.2, fun k => if k < 2 * (p_all A).2.2.2.2.2.2.1 then 1 else 0, fun _ => 0), q_rec A, A.2.2.1, 0, A.2.2.2.2) else A
section readm
variable {h : AH} {A : QA}
theorem p_w0 {h : AH} {N : Nat → Nat → Nat → Int32} {r : Nat} : p_w h N r 0 := fun _ _ _ hj => absurd hj (by omega)
theorem m_readsRow {r c i : Nat} {N : Nat → Nat → Nat → Int32} (I : mI h A) (hr : r = 0 ∨ r = 1) (hi : i ≤ A.2.2.2.1) (e : am_I h 20 20 = nI i) (h1 : r = 1 → am_I h 33 0 = nI c ∧ 1 ≤ c ∧ c ≤ 3 ∧ p_w h N 0 c) : p_res A h r c i (0, r, 0, 0, 0, c, N) (am_ev 141 0 [.ref 20, .int (nI r), am_ph, am_ph] [] h) := by
  have m := I.1
  rw [am_b141_0, if_pos m.k, m.r19, x_oe, if_pos (x_wr m.k19 m.l19 (by omega) (by omega)), x_cl (by omega)]
  have T : mT h (am_sI h 33 r 0) := mT.ro
  refine p_res.of (i1 := i) (m_row9 hr 2 0 i N _ (by omega) (T.I I) hi (by rw [am_sI_ne (by omega)]; exact e) (by rw [am_sI_I, am_ud_eq]; rfl) (fun z => ?_) p_w0) T rfl
  obtain ⟨f1, f2, f3, f4⟩ := h1 z
  exact ⟨by rw [am_sI_I, am_ud_ne (by omega)]; exact f1, f2, f3, f4.cp (fun p hp j hj => ⟨by rw [am_sI_ne (by omega)], rfl⟩)⟩
theorem m_faultOf (I : mI h A) : ∃ h2, am_ev 142 0 [.ref 20] [] h = some (some (.int (f_fault A)), h2) ∧ mT h h2 ∧ (f_fault A = -6 → ∃ c N, (p_all A).2 = (3, 1, c, 1, 0, c, N) ∧ (2 ≤ c ∧ c ≤ 3) ∧ am_I h2 33 0 = nI c ∧ p_w h2 N 0 c ∧ p_w h2 N 1 c) := by
  have m := I.1
  have pn := I.pn
  have T0 : mT h (am_sI h 20 20 0) := mT.sp
  have I0 := T0.I I
  have m0 := I0.1
  rw [am_b142_0, if_pos m.k]
  try dsimp only
  rw [if_pos m0.k]
  have nf : ∀ j : Nat, j ≤ A.2.2.2.1 → ¬ nI j = -6 := by
    intro j hj z
    have := congrArg Int32.toInt z
    rw [nI_toInt (by omega)] at this
    rw [show (-6 : Int32).toInt = -6 from rfl] at this
    omega
  obtain ⟨b, j, h2, e1, T2, e3, e4, e5⟩ := m_readsRow (r := 0) (c := 0) (i := 0) (N := fun _ _ _ => 0) I0 (Or.inl rfl) (Nat.zero_le _) (by rw [am_sI_I, am_ud_eq]; rfl) (fun z => absurd z (by decide))
  have m2 := ((T0.tr T2).I I).1
  rw [show (.int (0 : Int32) : Value) = .int (nI 0) from rfl, e1, x_bI]
  rcases e5 with ⟨rfl, r1⟩ | ⟨rfl, -, c, N, hc, r1, r2, r3⟩ | ⟨-, z, -⟩
  · rw [if_pos rfl, if_pos m2.k, e3]
    have : f_fault A = nI j := r1
    exact ⟨h2, by rw [this], T0.tr T2, fun z => absurd (this.symm.trans z) (nf j e4)⟩
  · rw [if_neg (by decide), if_pos m2.k]
    obtain ⟨b', j', h3, e1', T3, e3', e4', e5'⟩ := m_readsRow (r := 1) (c := c) (i := j) (N := N) ((T0.tr T2).I I) (Or.inr rfl) e4 e3 (fun _ => ⟨r2, by omega, hc.2, r3⟩)
    have m3 := (((T0.tr T2).tr T3).I I).1
    rw [x_c1, e1', x_bI]
    rcases e5' with ⟨rfl, q1⟩ | ⟨-, z, -⟩ | ⟨rfl, -, N', q1, q2, q3, q4⟩
    · rw [if_pos rfl, if_pos m3.k, e3']
      have : f_fault A = nI j' := by
        unfold f_fault p_all
        rw [r1]
        exact q1
      exact ⟨h3, by rw [this], (T0.tr T2).tr T3, fun z => absurd (this.symm.trans z) (nf j' e4')⟩
    · exact absurd z (by decide)
    · rw [if_neg (by decide)]
      have ea : p_all A = (-6, (3, 1, c, 1, 0, c, N')) := by
        unfold p_all
        rw [r1]
        exact q1
      have : f_fault A = -6 := by unfold f_fault; rw [ea]
      exact ⟨h3, by rw [this], (T0.tr T2).tr T3, fun _ => ⟨c, N', by rw [ea], hc, q2, q3, q4⟩⟩
  · exact absurd z (by decide)
theorem m_fault (I : mI h A) (X : mE h A.1) : ∃ h1, am_ev 158 0 [.ref 20] [] h = some (some (.int (f_fault A)), h1) ∧ mI h1 A ∧ mfr h h1 ∧ mE h1 A.1 := by
  obtain ⟨h2, e, T, -⟩ := m_faultOf I
  rw [am_b158_0, if_pos I.1.k, e, x_bI]
  exact ⟨h2, rfl, T.I I, T.fr, X.kp T.xk rfl rfl⟩
/-- points copied from what was read -/
theorem m_read35 {c p : Nat} {N : Nat → Nat → Nat → Int32} (h3 : c = 2 ∨ c = 3) (hp : p < 2) : ∀ (d j : Nat) (h : AH), mL h → j + d = 2 * c → am_I h 21 0 = nI c → p_w h N 0 c → p_w h N 1 c → am_ev 143 35 [.ref 20, .int (nI p), .int (nI j)] [] (am_fo h 21 (2 + 6 * p) j (fun k => N p (k / c) (k % c))) = am_ev 143 28 [.ref 20, .int (nI (p + 1)), am_ph] [] (am_fo h 21 (2 + 6 * p) (2 * c) (fun k => N p (k / c) (k % c))) := by
  have h6 : 2 * c ≤ 6 := by rcases h3 with e | e <;> omega
  intro d
  induction d with
  | zero =>
    intro j h m hj hc w0 w1
    have hc' : am_I (am_fo h 21 (2 + 6 * p) j (fun k => N p (k / c) (k % c))) 21 0 = nI c := by rw [am_fo_I]; dsimp only; rw [if_neg (by omega)]; exact hc
    rw [am_b143_35, if_pos m.fo.k, m_cells m.fo hc', x_bI, if_neg (by rw [x_lt (by omega) (by omega)]; omega), nI_S, show j = 2 * c by omega]
  | succ d ih =>
    intro j h m hj hc w0 w1
    have m' : mL (am_fo h 21 (2 + 6 * p) j (fun k => N p (k / c) (k % c))) := m.fo
    have hc' : am_I (am_fo h 21 (2 + 6 * p) j (fun k => N p (k / c) (k % c))) 21 0 = nI c := by rw [am_fo_I]; dsimp only; rw [if_neg (by omega)]; exact hc
    have hc0 : ¬ nI c = 0 := nI_ne0 (by omega) (by omega)
    have hd : j / c < 2 ∧ j % c < c ∧ j / c * c + j % c = j := ⟨by rcases h3 with rfl | rfl <;> omega, Nat.mod_lt _ (by omega), by rw [Nat.mul_comm]; exact Nat.div_add_mod j c⟩
    have i := ih (j + 1) h m (by omega) hc w0 w1
    have f := am_fo_s h 21 (2 + 6 * p) j (fun k => N p (k / c) (k % c))
    have er : am_I (am_fo h 21 (2 + 6 * p) j (fun k => N p (k / c) (k % c))) 32 (6 * p + 3 * (j / c) + j % c) = N p (j / c) (j % c) := by
      rw [am_fo_ne (by omega)]
      rcases (show ∀ x : Nat, x < 2 → x = 0 ∨ x = 1 from fun x hx => by omega) _ hd.1 with e | e
      · rw [e]; exact w0 p hp _ hd.2.1
      · rw [e]; exact w1 p hp _ hd.2.1
    rw [am_b143_35, if_pos m'.k, m_cells m' hc', x_bI, if_pos (by rw [x_lt (by omega) (by omega)]; omega), if_pos m'.k, m'.r0, x_oe, if_pos m'.k, m'.r18, x_oe, if_pos m'.k, m_columns m', hc', x_bI, if_neg hc0, if_pos m'.k, m_columns m', hc', x_bI, if_neg hc0, x_div (by omega) (by omega), x_c6, x_c3, x_c2, pk_mul, pk_mul, pk_mul, nI_add, x_sub (by omega), show j - j / c * c = j % c by omega, nI_add, nI_add, nI_add, if_pos (x_rd m'.k18 m'.l18 (by omega) (by omega)), if_pos (x_wr m'.k0 m'.l0 (by omega) (by omega)), x_cl (by omega), x_cl (by omega), er, f, nI_S]
    exact i
theorem m_read (I : mI h A) (X : mE h A.1) : ∃ h1, am_ev 143 0 [.ref 20, am_ph, am_ph] [] h = some (some (.int (f_read A)), h1) ∧ mI h1 (g_read A) ∧ mfr h h1 ∧ mE h1 (g_read A).1 := by
  obtain ⟨h1, e1, T, hf⟩ := m_faultOf I
  have I1 := T.I I
  have m1 := I1.1
  have X1 : mE h1 A.1 := X.kp T.xk rfl rfl
  rw [am_b143_0, if_pos I.1.k, e1, x_bI]
  unfold f_fault at hf ⊢
  unfold f_read g_read
  by_cases hx : (p_all A).1 = -6
  · obtain ⟨c, N, ea, hc, q1, q2, q3⟩ := hf hx
    have h3 : c = 2 ∨ c = 3 := by omega
    have h6 : 2 * c ≤ 6 := by omega
    rw [if_pos hx, if_pos hx, if_pos hx, if_pos m1.k, ea]
    dsimp only
    obtain ⟨h2, e2, I2, f2, k2, r2⟩ := I1.rec
    have m2 := I2.1
    have hrow : am_I h2 33 = am_I h1 33 ∧ am_I h2 32 = am_I h1 32 := ⟨r2 33 (by omega) (by omega), r2 32 (by omega) (by omega)⟩
    rw [e2, x_bV, if_pos m2.k, m2.r19, x_oe, if_pos (x_rd0 m2.k19 m2.l19 (by omega)), x_cl0, hrow.1, q1, if_pos m2.k]
    obtain ⟨F, e3, v3⟩ := m_anew m2 h3
    rw [e3, x_bV, am_b143_28, if_pos (by decide)]
    generalize hh3 : am_sI (am_rI h2 21 F) 20 11 0 = h3'
    have m3 : mL h3' := by rw [← hh3]; exact m2.rI.sI
    have c3 : am_I h3' 21 = F := by rw [← hh3, am_sI_ne (by omega), am_rI_I]
    have w3 : am_I h3' 32 = am_I h1 32 := by rw [← hh3, am_sI_ne (by omega), am_rI_ne (by omega), hrow.2]
    have e4 := m_read35 (p := 0) (N := N) h3 (by omega) (2 * c) 0 h3' m3 (by omega) (by rw [c3]; exact v3.1) (fun p hp j hj => by rw [w3]; exact q2 p hp j hj) (fun p hp j hj => by rw [w3]; exact q3 p hp j hj)
    rw [am_fo_0] at e4
    have e5 := m_read35 (p := 1) (N := N) h3 (by omega) (2 * c) 0 (am_fo h3' 21 (2 + 6 * 0) (2 * c) (fun k => N 0 (k / c) (k % c))) m3.fo (by omega) (by rw [am_fo_I]; dsimp only; rw [if_neg (by omega), c3]; exact v3.1) (fun p hp j hj => by rw [am_fo_ne (by omega), w3]; exact q2 p hp j hj) (fun p hp j hj => by rw [am_fo_ne (by omega), w3]; exact q3 p hp j hj)
    rw [am_fo_0] at e5
    rw [show (.int (0 : Int32) : Value) = .int (nI 0) from rfl, e4, am_b143_28, if_pos (by decide), show (.int (0 : Int32) : Value) = .int (nI 0) from rfl]
    rw [e5, am_b143_28, if_neg (by decide)]
    generalize hh5 : am_fo (am_fo h3' 21 (2 + 6 * 0) (2 * c) (fun k => N 0 (k / c) (k % c))) 21 (2 + 6 * 1) (2 * c) (fun k => N 1 (k / c) (k % c)) = h5
    have m5 : mL h5 := by rw [← hh5]; exact m3.fo.fo
    have f5 : ∀ b, b ≠ 21 → am_I h5 b = am_I h3' b := fun b hb => by rw [← hh5, am_fo_ne hb, am_fo_ne hb]
    have c5 : ∀ k, am_I h5 21 k = if 8 ≤ k ∧ k < 8 + 2 * c then N 1 ((k - 8) / c) ((k - 8) % c) else if 2 ≤ k ∧ k < 2 + 2 * c then N 0 ((k - 2) / c) ((k - 2) % c) else F k := fun k => by rw [← hh5, am_fo_I, am_fo_I, c3]
    have m5' : mL (am_sI h5 20 17 0) := m5.sI
    have t5 : h5.1 = h2.1 ∧ am_R h5 = am_R h2 ∧ am_J h5 = am_J h2 := by rw [← hh5, ← hh3]; exact ⟨rfl, rfl, rfl⟩
    have f3' : ∀ b, b ≠ 20 → b ≠ 21 → am_I h3' b = am_I h2 b := fun b b1 b2 => by rw [← hh3, am_sI_ne b1, am_rI_ne b2]
    have f20 : ∀ k, k ≠ 11 → am_I h5 20 k = am_I h2 20 k := fun k hk => by rw [f5 20 (by omega), ← hh3, am_sI_I, am_ud_ne hk, am_rI_ne (by omega)]
    have f11 : am_I h5 20 11 = 0 := by rw [f5 20 (by omega), ← hh3, am_sI_I, am_ud_eq]
    have e0 : am_I (am_sI h5 20 17 0) 21 0 = nI c := by rw [am_sI_ne (by omega), c5, if_neg (by omega), if_neg (by omega)]; exact v3.1
    rw [if_pos m5.k]
    try dsimp only
    rw [if_pos m5'.k, m_columns m5', e0, x_bI]
    refine ⟨am_sI h5 20 17 0, rfl, ?_, ?_, ?_⟩
    · obtain ⟨i1, i2, i3, i4, i5, i6, i7, i8⟩ := I2
      have e21 : am_I h2 21 1 = A.1.2.1 := i2.2.1
      refine ⟨m5', ?_, h3, ⟨?_, i4.2.1, fun i hi => ?_⟩, fun i hi => ?_, by rw [am_sI_I, am_ud_eq]; rfl, Nat.zero_le _, fun k hk => absurd hk (Nat.not_lt_zero k)⟩
      · rw [am_sI_ne (by omega)]
        obtain ⟨v1, v2, v4, v5, v6⟩ := v3
        refine ⟨?_, ?_, fun x hx => ?_, fun x hx => ?_, fun x hx => ?_⟩
        · rw [c5, if_neg (by omega), if_neg (by omega)]; exact v1
        · rw [c5, if_neg (by omega), if_neg (by omega), v2]; exact e21
        · rw [c5]
          show _ = p_gains c N x
          unfold p_gains
          by_cases x6 : x < 6
          · rw [if_neg (by omega)]
            by_cases xc : x < 2 * c
            · rw [if_pos (by omega), if_pos (by omega), show 2 + x - 2 = x by omega, show x % 6 = x by omega, show x / 6 = 0 by omega]
            · rw [if_neg (by omega), if_neg (by omega)]
              exact v4 x hx
          · by_cases xc : x - 6 < 2 * c
            · rw [if_pos (by omega), if_pos (by omega), show 2 + x - 8 = x - 6 by omega, show x % 6 = x - 6 by omega, show x / 6 = 1 by omega]
            · rw [if_neg (by omega), if_neg (by omega), if_neg (by omega)]
              exact v4 x hx
        · rw [c5, if_neg (by omega), if_neg (by omega)]
          exact v5 x hx
        · rw [c5, if_neg (by omega), if_neg (by omega)]
          exact v6 x hx
      · rw [am_sI_I, am_ud_ne (by omega), f20 2 (by omega)]
        exact i4.1
      · rw [am_sI_ne (by omega), f5 22 (by omega), f3' 22 (by omega) (by omega)]
        exact i4.2.2 i hi
      · exact (i5 i hi).cp (by rw [am_sI_ne (by omega), f5 23 (by omega), f3' 23 (by omega) (by omega)]) (by rw [am_sI_ne (by omega), f5 24 (by omega), f3' 24 (by omega) (by omega)])
    · refine (T.fr.tr f2).tr (am_fr.tr (h1 := h5) ⟨t5.1, t5.2.1, fun b hb => ?_, fun b _ => by rw [t5.2.2]⟩ (am_sI_fr (by omega)))
      rw [f5 b (by omega), f3' b (by omega) (by omega)]
    · exact Or.inl (by rw [am_sI_I, am_ud_ne (by omega)]; exact f11)
  · rw [if_neg hx, if_neg hx, if_neg hx]
    exact ⟨h1, rfl, I1, T.fr, X1⟩
end readm
