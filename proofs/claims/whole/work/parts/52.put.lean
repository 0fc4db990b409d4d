/-! ===== characters in a long; the Model's put ===== -/
def q_sh (x : Int64) : Int64 := (Int64.toUInt64 x >>> ((Int32.toInt64 (8 : Int32)).toUInt64 &&& Int64.toUInt64 63)).toInt64
def q_rs (x : Int64) : Nat → Int64
  | 0 => x
  | n + 1 => q_sh (q_rs x n)
theorem q_byE : ∃ f : Int64 → Nat → Int32, ∀ x k, f x k = Int64.toInt32 (((Int64.toUInt64 x >>> ((Int32.toInt64 (nI (8 * k))).toUInt64 &&& Int64.toUInt64 63)).toInt64) &&& (255 : Int64)) := ⟨_, fun _ _ => rfl⟩
noncomputable def q_by : Int64 → Nat → Int32 := Classical.choose q_byE
theorem q_by_eq (x : Int64) (k : Nat) : Int64.toInt32 (((Int64.toUInt64 x >>> ((Int32.toInt64 (nI (8 * k))).toUInt64 &&& Int64.toUInt64 63)).toInt64) &&& (255 : Int64)) = q_by x k := (Classical.choose_spec q_byE x k).symm
theorem q_sh_nat (x : Int64) : (q_sh x).toUInt64.toNat = x.toUInt64.toNat / 256 := by
  unfold q_sh
  show (x.toUInt64 >>> ((Int32.toInt64 (8 : Int32)).toUInt64 &&& Int64.toUInt64 63)).toNat = _
  rw [UInt64.toNat_shiftRight]
  rw [show ((Int32.toInt64 (8 : Int32)).toUInt64 &&& Int64.toUInt64 63).toNat % 64 = 8 from by decide]
  rw [Nat.shiftRight_eq_div_pow]
theorem q_rs_nat (x : Int64) : ∀ n, (q_rs x n).toUInt64.toNat = x.toUInt64.toNat / 256 ^ n
  | 0 => by simp [q_rs]
  | n + 1 => by
    unfold q_rs
    rw [q_sh_nat, q_rs_nat x n, Nat.div_div_eq_div_mul, Nat.pow_succ]
theorem q_rs_8 (x : Int64) : q_rs x 8 = 0 := by
  have h := q_rs_nat x 8
  have h2 := x.toUInt64.toNat_lt
  have h3 : (q_rs x 8).toUInt64.toNat = 0 := by rw [h]; omega
  have h4 : (q_rs x 8).toUInt64 = 0 := UInt64.toNat_inj.mp h3
  calc q_rs x 8 = ((q_rs x 8).toUInt64).toInt64 := rfl
    _ = 0 := by rw [h4]; rfl
/-- how many characters; 0 for none or a bad one -/
def q_mn (x : Int64) : Nat → Nat → Nat
  | 0, i => i
  | d + 1, i => if q_rs x i = 0 then i else if 33 ≤ (q_rs x i &&& (255 : Int64)).toInt ∧ (q_rs x i &&& (255 : Int64)).toInt ≤ 126 then q_mn x d (i + 1) else 0
theorem q_mn_le (x : Int64) : ∀ d i, q_mn x d i ≤ i + d
  | 0, i => Nat.le_refl _
  | d + 1, i => by
    unfold q_mn
    have := q_mn_le x d (i + 1)
    split
    · omega
    · split <;> omega
def f_put (A : QA) (x : Int64) : Int32 := if q_mn x 8 0 = 0 then -2 else if 60 < A.2.2.2.1 + q_mn x 8 0 then -4 else nI (A.2.2.2.1 + q_mn x 8 0)
noncomputable def q_app (pn : Nat) (pad : Nat → Int32) (x : Int64) (n : Nat) : Nat → Int32 := fun k => if pn ≤ k then q_by x (n - 1 - (k - pn)) else pad k
noncomputable def g_put (A : QA) (x : Int64) : QA := if q_mn x 8 0 = 0 then A else if 60 < A.2.2.2.1 + q_mn x 8 0 then A else (A.1, A.2.1, A.2.2.1, A.2.2.2.1 + q_mn x 8 0, q_app A.2.2.2.1 A.2.2.2.2 x (q_mn x 8 0))
theorem am_ext {h h' : AH} (e1 : h.1 = h'.1) (e2 : ∀ b k, am_I h b k = am_I h' b k) (e3 : am_J h = am_J h') (e4 : am_R h = am_R h') : h = h' := by
  have e : am_I h = am_I h' := by funext b k; exact e2 b k
  obtain ⟨a1, a2, a3, a4⟩ := h
  obtain ⟨b1, b2, b3, b4⟩ := h'
  have f1 : a1 = b1 := e1
  have f2 : a2 = b2 := e
  have f3 : a3 = b3 := e3
  have f4 : a4 = b4 := e4
  rw [f1, f2, f3, f4]
theorem x_I' {h : AH} {b k d : Nat} {v : Int32} : am_I (am_sI h b k v) d = if d = b then am_ud (am_I h b) k v else am_I h d := Eq.trans rfl rfl
theorem x_ud' {α : Type} {f : Nat → α} {k j : Nat} {v : α} : am_ud f k v j = if j = k then v else f j := Eq.trans rfl rfl
theorem x_Io {h : AH} {w o n d : Nat} {F : Nat → Int32} : am_I (am_fo h w o n F) d = if d = w then (fun k => if o ≤ k ∧ k < o + n then F (k - o) else am_I h w k) else am_I h d := Eq.trans rfl rfl
theorem x_m1 (x : Int32) : x + (-1 : Int32) = x - 1 := (Int32.sub_eq_add_neg x 1).symm
theorem m_putmem {h : AH} {x : Int64} {pn j d n : Nat} : am_sI (am_fo (am_sI (am_sI h 31 (pn + j) (q_by x d)) 20 17 (nI (pn + j + 1))) 31 (pn + j + 1) d fun k => q_by x (d - 1 - k)) 20 17 (nI (pn + n)) = am_sI (am_fo h 31 (pn + j) (d + 1) fun k => q_by x (d + 1 - 1 - k)) 20 17 (nI (pn + n)) := by
  refine am_ext rfl (fun b k => ?_) rfl rfl
  by_cases h1 : b = 20
  · subst h1
    simp only [x_I', x_Io, x_ud']
    simp
    unfold am_ud
    by_cases h2 : k = 17 <;> simp [h2]
  · by_cases h2 : b = 31
    · subst h2
      simp only [x_I', x_Io, x_ud']
      simp
      by_cases h3 : k = pn + j
      · subst h3
        rw [if_neg (by omega), am_ud_eq, if_pos (by omega), Nat.sub_self, Nat.sub_zero]
      · by_cases h4 : pn + j + 1 ≤ k ∧ k < pn + j + 1 + d
        · rw [if_pos h4, if_pos (by omega), show d - 1 - (k - (pn + j + 1)) = d - (k - (pn + j)) by omega]
        · rw [if_neg h4, am_ud_ne h3, if_neg (by omega)]
    · simp only [x_I', x_Io, x_ud', if_neg h1, if_neg h2]
section put
variable {h : AH} {A : QA}
/-- what 68 does once the count, the flag and the rest stand -/
theorem m_put68bad {x r : Int64} {n : Nat} (hn : n < 9) (v : Int32) (hb : n = 0 ∨ v = 0 ∨ r ≠ 0) : am_ev 156 68 [.ref 20, .long x, am_ph, .int (nI n), .int v, .long r, am_ph, am_ph] [] h = some (some (.int (-2)), h) := by
  rw [am_b156_68]
  simp only [x_eq0 (show n < 2147483648 by omega), lg_cmp_eq]
  by_cases h1 : n = 0
  · rw [if_pos h1]
  · rw [if_neg h1]
    by_cases h2 : r = 0
    · rw [if_pos h2]
      have : v = 0 := by
        rcases hb with e | e | e
        · exact absurd e h1
        · exact e
        · exact absurd h2 e
      rw [if_pos this]
    · rw [if_neg h2]
theorem m_put8bad {x : Int64} : ∀ (d i : Nat), i + d = 8 → am_ev 156 8 [.ref 20, .long x, am_ph, .int (nI i), .int 0, .long (q_rs x i), am_ph, am_ph] [] h = some (some (.int (-2)), h) := by
  intro d
  induction d with
  | zero =>
    intro i hi
    rw [am_b156_8, x_c8, if_neg (by rw [x_lt (by omega) (by omega)]; omega)]
    exact m_put68bad (by omega) 0 (Or.inr (Or.inl rfl))
  | succ d ih =>
    intro i hi
    rw [am_b156_8]
    simp only [lg_cmp_eq]
    by_cases h1 : q_rs x i &&& (255 : Int64) = 0
    · rw [x_c8, if_pos (by rw [x_lt (by omega) (by omega)]; omega), if_pos h1]
      exact m_put68bad (by omega) 0 (Or.inr (Or.inl rfl))
    · rw [if_neg h1, if_pos (by rw [x_c8, x_lt (by omega) (by omega)]; omega), if_pos trivial, nI_S]
      exact ih (i + 1) (by omega)
theorem m_put8 {x : Int64} : ∀ (d i : Nat), i + d = 8 → am_ev 156 8 [.ref 20, .long x, am_ph, .int (nI i), .int 1, .long (q_rs x i), am_ph, am_ph] [] h = if q_mn x d i = 0 then some (some (.int (-2)), h) else am_ev 156 68 [.ref 20, .long x, am_ph, .int (nI (q_mn x d i)), .int 1, .long 0, am_ph, am_ph] [] h := by
  intro d
  induction d with
  | zero =>
    intro i hi
    obtain rfl : i = 8 := by omega
    rw [am_b156_8, x_c8, if_neg (by rw [x_lt (by omega) (by omega)]; omega), q_rs_8]
    unfold q_mn
    rw [if_neg (by omega)]
  | succ d ih =>
    intro i hi
    rw [am_b156_8]
    simp only [lg_cmp_eq]
    rw [if_pos (by rw [x_c8, x_lt (by omega) (by omega)]; omega)]
    unfold q_mn
    by_cases h0 : q_rs x i = 0
    · rw [if_pos h0, h0, if_pos (by decide)]
      by_cases hi0 : i = 0
      · rw [if_pos hi0]
        exact m_put68bad (by omega) 1 (Or.inl hi0)
      · rw [if_neg hi0]
    · rw [if_neg h0]
      by_cases h1 : q_rs x i &&& (255 : Int64) = 0
      · have hb : ¬ (33 ≤ (q_rs x i &&& (255 : Int64)).toInt ∧ (q_rs x i &&& (255 : Int64)).toInt ≤ 126) := by rw [h1]; decide
        rw [if_pos h1, if_neg hb, if_pos rfl]
        exact m_put68bad (by omega) 1 (Or.inr (Or.inr h0))
      · rw [if_neg h1, if_neg (by decide)]
        have e96 : am_ev 96 0 [.long (q_rs x i &&& (255 : Int64)), am_ph, .long (33 : Int64), am_ph, .long (126 : Int64), am_ph] [] h = some (some (.int (if 33 ≤ (q_rs x i &&& (255 : Int64)).toInt ∧ (q_rs x i &&& (255 : Int64)).toInt ≤ 126 then 1 else 0)), h) := by
          rw [am_b96_0]
          simp only [lg_cmp_lt, lg_cmp_gt, y_lt]
          rw [show (33 : Int64).toInt = 33 from rfl, show (126 : Int64).toInt = 126 from rfl]
          generalize (q_rs x i &&& (255 : Int64)).toInt = z
          by_cases a1 : z < 33
          · rw [if_pos a1, if_neg (by omega)]
          · rw [if_neg a1]
            by_cases a2 : 126 < z
            · rw [if_pos a2, if_neg (by omega)]
            · rw [if_neg a2, if_pos (by omega)]
        rw [e96, x_bI, x_ite, nI_S]
        by_cases h2 : 33 ≤ (q_rs x i &&& (255 : Int64)).toInt ∧ (q_rs x i &&& (255 : Int64)).toInt ≤ 126
        · rw [if_pos h2, if_pos h2]
          exact ih (i + 1) (by omega)
        · rw [if_neg h2, if_neg h2, if_pos rfl]
          exact m_put8bad d (i + 1) (by omega)
theorem m_put106 (m : mL h) {x : Int64} {pn n : Nat} (hp : pn + n ≤ 60) : ∀ (d j : Nat), j + d = n → ∀ h : AH, mL h → am_I h 20 17 = nI (pn + j) → am_ev 156 106 [.ref 20, .long x, am_ph, am_ph, am_ph, am_ph, am_ph, .int (nI d - 1)] [] h = some (some (.int (nI (pn + n))), am_sI (am_fo h 31 (pn + j) d (fun k => q_by x (d - 1 - k))) 20 17 (nI (pn + n))) := by
  intro d
  induction d with
  | zero =>
    intro j hj h m e
    rw [am_b156_106, if_pos (by decide), if_pos m.k, e, show pn + j = pn + n by omega, am_fo_0]
    have : am_sI h 20 17 (nI (pn + n)) = h := by
      rw [show pn + n = pn + j by omega, ← e]
      unfold am_sI
      rw [am_ud_id, am_rI_id]
    rw [this]
  | succ d ih =>
    intro j hj h m e
    rw [am_b156_106, nI_pred, if_neg (nI_pos (by omega)), if_pos m.k, m.r16, x_oe, if_pos m.k, e, if_pos (x_wr m.k16 m.l16 (by omega) (by omega)), x_cl (by omega)]
    try dsimp only
    rw [if_pos m.sI.k, if_pos m.sI.k]
    have e0 : am_I (am_sI h 31 (pn + j) (Int64.toInt32 (((Int64.toUInt64 x >>> ((Int32.toInt64 ((8 : Int32) * nI d)).toUInt64 &&& Int64.toUInt64 63)).toInt64) &&& (255 : Int64)))) 20 17 = nI (pn + j) := by rw [am_sI_ne (by omega)]; exact e
    rw [e0, nI_S]
    have eb : Int64.toInt32 (((Int64.toUInt64 x >>> ((Int32.toInt64 ((8 : Int32) * nI d)).toUInt64 &&& Int64.toUInt64 63)).toInt64) &&& (255 : Int64)) = q_by x d := by
      rw [x_c8, pk_mul, q_by_eq]
    rw [eb]
    have i := ih (j + 1) (by omega) (am_sI (am_sI h 31 (pn + j) (q_by x d)) 20 17 (nI (pn + (j + 1)))) m.sI.sI (by rw [am_sI_I, am_ud_eq])
    rw [show pn + (j + 1) = pn + j + 1 by omega] at i
    rw [x_m1, i]
    rw [m_putmem]
theorem m_put (I : mI h A) (X : mE h A.1) (x : Int64) : ∃ h1, am_ev 156 0 [.ref 20, .long x, am_ph, am_ph, am_ph, am_ph, am_ph, am_ph] [] h = some (some (.int (f_put A x)), h1) ∧ mI h1 (g_put A x) ∧ mfr h h1 ∧ mE h1 (g_put A x).1 := by
  have m := I.1
  obtain ⟨i1, i2, i3, i4, i5, i6, i7, i8⟩ := id I
  have hmn := q_mn_le x 8 0
  have e := m_put8 (h := h) (x := x) 8 0 (by omega)
  rw [am_b156_0]
  unfold f_put g_put
  revert e hmn
  generalize q_mn x 8 0 = n
  intro hmn e
  by_cases h1 : n = 0
  · rw [if_pos h1] at e
    rw [if_pos h1, if_pos h1]
    exact ⟨h, e, I, am_fr.rf, X⟩
  · rw [if_neg h1, am_b156_68] at e
    simp only [x_eq0 (show n < 2147483648 by omega)] at e
    rw [if_neg h1, if_pos (by decide), if_neg (by decide), if_pos m.k, i6, nI_add] at e
    rw [if_neg h1, if_neg h1]
    by_cases h2 : 60 < A.2.2.2.1 + n
    · rw [if_pos (by rw [x_c60, x_lt (by omega) (by omega)]; exact h2)] at e
      rw [if_pos h2, if_pos h2]
      exact ⟨h, e, I, am_fr.rf, X⟩
    · rw [if_neg (by rw [x_c60, x_lt (by omega) (by omega)]; exact h2)] at e
      rw [if_neg h2, if_neg h2]
      have i := m_put106 (x := x) m (show A.2.2.2.1 + n ≤ 60 by omega) n 0 (by omega) h m (by rw [i6]; rfl)
      refine ⟨_, e.trans i, ?_, (am_fr_rI (by omega)).tr (am_sI_fr (by omega)), X.kp ⟨rfl, rfl, rfl, rfl⟩ rfl rfl⟩
      refine ⟨m.of rfl rfl, i2, i3, i4, fun i hi => (i5 i hi).cp rfl rfl, by rw [am_sI_I, am_ud_eq], by show A.2.2.2.1 + n ≤ 60; omega, fun k hk => ?_⟩
      rw [am_sI_ne (by omega), am_fo_I]
      dsimp only at hk ⊢
      unfold q_app
      by_cases h3 : A.2.2.2.1 ≤ k
      · rw [if_pos (by omega), if_pos h3]
        rfl
      · rw [if_neg (by omega), if_neg h3]
        exact i8 k (by omega)
end put
